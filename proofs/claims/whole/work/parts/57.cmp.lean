/-! ===== what is no NaN equals itself ===== -/
theorem fo_self {d : FP.Core.Datum} (h : d ≠ .nan) : FP.Core.order d d = some .eq := by
  cases d with
  | nan => exact absurd rfl h
  | inf s => cases s <;> decide
  | fin s c q =>
    show some (compare (FP.Core.signed s (FP.Core.inUnits c q (min q q))) (FP.Core.signed s (FP.Core.inUnits c q (min q q)))) = some .eq
    rw [Int.compare_eq_eq.mpr rfl]
theorem fl_dec {d : FP.Core.Datum} (h : fl_ok d) : FP.Core.decode FP.Core.b64 (UInt64.ofNat (FP.Core.encode FP.Core.b64 d)).toNat ≠ .nan := by
  obtain ⟨s, m, h1, h2⟩ := fl_enc h
  have e1 : FP.Core.Fmt.exps FP.Core.b64 = 2048 := rfl
  have e2 : FP.Core.Fmt.tails FP.Core.b64 = 4503599627370496 := rfl
  have s1 : s.toNat ≤ 1 := by cases s <;> decide
  rw [h2, UInt64.toNat_ofNat']
  unfold FP.Core.decode FP.Core.fieldE FP.Core.fieldT
  rw [e1, e2]
  by_cases q : (s.toNat * 9223372036854775808 + m) % 2 ^ 64 / 4503599627370496 % 2048 = 2048 - 1
  · rw [if_pos q, if_pos (by omega)]
    intro u; cases u
  · rw [if_neg q]
    split
    · intro u; cases u
    · intro u; cases u
theorem dcmp_self {d : FP.Core.Datum} (h : fl_ok d) : FP.dcmp (UInt64.ofNat (FP.Core.encode FP.Core.b64 d)) (UInt64.ofNat (FP.Core.encode FP.Core.b64 d)) = some .eq := fo_self (fl_dec h)
theorem dcmp_n {r : UInt64} (h : vf_n64 r) : FP.dcmp r r = some .eq := by
  refine fo_self ?_
  have e1 : FP.Core.Fmt.exps FP.Core.b64 = 2048 := rfl
  have e2 : FP.Core.Fmt.tails FP.Core.b64 = 4503599627370496 := rfl
  have hr : r.toNat < 2 ^ 64 := r.toBitVec.isLt
  have hm : r.toNat % 2 ^ 63 ≤ 9218868437227405312 := by
    unfold vf_n64 at h
    rw [UInt64.le_iff_toNat_le, UInt64.toNat_and] at h
    have e : (9223372036854775807 : UInt64).toNat = 2 ^ 63 - 1 := rfl
    have h' : r.toNat &&& (9223372036854775807 : UInt64).toNat ≤ (9218868437227405312 : UInt64).toNat := h
    rw [e, Nat.and_two_pow_sub_one_eq_mod] at h'
    exact h'
  unfold FP.Core.decode FP.Core.fieldE FP.Core.fieldT
  rw [e1, e2]
  by_cases q : r.toNat / 4503599627370496 % 2048 = 2048 - 1
  · rw [if_pos q, if_pos (by omega)]
    intro u; cases u
  · rw [if_neg q]
    split
    · intro u; cases u
    · intro u; cases u
theorem fcmp_n {r : UInt32} (h : vf_n32 r) : FP.fcmp r r = some .eq := by
  refine fo_self ?_
  have e1 : FP.Core.Fmt.exps FP.Core.b32 = 256 := rfl
  have e2 : FP.Core.Fmt.tails FP.Core.b32 = 8388608 := rfl
  have hr : r.toNat < 2 ^ 32 := r.toBitVec.isLt
  have hm : r.toNat % 2 ^ 31 ≤ 2139095040 := by
    unfold vf_n32 at h
    rw [UInt32.le_iff_toNat_le, UInt32.toNat_and] at h
    have e : (2147483647 : UInt32).toNat = 2 ^ 31 - 1 := rfl
    have h' : r.toNat &&& (2147483647 : UInt32).toNat ≤ (2139095040 : UInt32).toNat := h
    rw [e, Nat.and_two_pow_sub_one_eq_mod] at h'
    exact h'
  unfold FP.Core.decode FP.Core.fieldE FP.Core.fieldT
  rw [e1, e2]
  by_cases q : r.toNat / 8388608 % 256 = 256 - 1
  · rw [if_pos q, if_pos (by omega)]
    intro u; cases u
  · rw [if_neg q]
    split
    · intro u; cases u
    · intro u; cases u
