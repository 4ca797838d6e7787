/-! ===== what is no NaN equals itself ===== -/
theorem fo_self {d : FP.Core.Datum} (h : d ≠ .nan) : FP.Core.order d d = some .eq := by
  cases d with
  | nan => exact absurd rfl h
  | inf s => cases s <;> decide
  | fin s c q =>
    show some (compare (FP.Core.signed s (FP.Core.inUnits c q (min q q))) (FP.Core.signed s (FP.Core.inUnits c q (min q q)))) = some .eq
    rw [Int.compare_eq_eq.mpr rfl]
theorem fl_dec {d : FP.Core.Datum} (h : fl_ok d) : FP.Core.decode FP.Core.b64 (UInt64.ofNat (FP.Core.encode FP.Core.b64 d)).toNat ≠ .nan := by
  obtain ⟨s, m, h1, h2⟩ := fl_enc h
  have e1 : FP.Core.Fmt.exps FP.Core.b64 = 2048 := rfl
  have e2 : FP.Core.Fmt.tails FP.Core.b64 = 4503599627370496 := rfl
  have s1 : s.toNat ≤ 1 := by cases s <;> decide
  rw [h2, UInt64.toNat_ofNat']
  unfold FP.Core.decode FP.Core.fieldE FP.Core.fieldT
  rw [e1, e2]
  by_cases q : (s.toNat * 9223372036854775808 + m) % 2 ^ 64 / 4503599627370496 % 2048 = 2048 - 1
  · rw [if_pos q, if_pos (by omega)]
    intro u; cases u
  · rw [if_neg q]
    split
    · intro u; cases u
    · intro u; cases u
theorem dcmp_self {d : FP.Core.Datum} (h : fl_ok d) : FP.dcmp (UInt64.ofNat (FP.Core.encode FP.Core.b64 d)) (UInt64.ofNat (FP.Core.encode FP.Core.b64 d)) = some .eq := fo_self (fl_dec h)
