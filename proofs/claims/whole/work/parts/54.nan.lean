/-! ===== a rounded quotient is no NaN ===== -/
def fk_ok (d : FP.Core.Datum) : Prop := match d with
  | .nan => False
  | .inf _ => True
  | .fin _ c q => c < 2 ^ 24 ∧ q ≤ 104
theorem fk_bound {s : Bool} {c : Nat} {q : Int} (hc : c < 2 ^ 24) : fk_ok (FP.Core.bound FP.Core.b32 s c q) := by
  unfold FP.Core.bound
  have e : FP.Core.Fmt.qmax FP.Core.b32 = 104 := by decide +kernel
  rw [e]
  by_cases h : q ≤ 104
  · rw [if_pos h]; exact ⟨hc, h⟩
  · rw [if_neg h]; trivial
theorem fk_settle {s : Bool} {c : Nat} {q : Int} : fk_ok (FP.Core.settle FP.Core.b32 s c q) := by
  unfold FP.Core.settle
  have e : (2 : Nat) ^ FP.Core.b32.p = 2 ^ 24 := rfl
  rw [e]
  by_cases h : c < 2 ^ 24
  · rw [if_pos h]; exact fk_bound h
  · rw [if_neg h]; exact fk_bound (by have e : FP.Core.Fmt.tails FP.Core.b32 = 2 ^ 23 := rfl; rw [e]; omega)
theorem fk_ratio {s : Bool} {a b : Nat} {e : Int} : fk_ok (FP.Core.roundRatio FP.Core.b32 s a b e) := by
  unfold FP.Core.roundRatio
  by_cases h : a = 0
  · rw [if_pos h]
    exact ⟨by omega, by decide +kernel⟩
  · rw [if_neg h]
    unfold FP.Core.roundAt
    exact fk_settle
theorem fk_enc {d : FP.Core.Datum} (h : fk_ok d) : ∃ s : Bool, ∃ m, m ≤ 2139095040 ∧ FP.Core.encode FP.Core.b32 d = s.toNat * 2147483648 + m := by
  have e1 : FP.Core.Fmt.exps FP.Core.b32 = 256 := rfl
  have e2 : FP.Core.Fmt.tails FP.Core.b32 = 8388608 := rfl
  have e3 : FP.Core.Fmt.qmin FP.Core.b32 = -149 := by decide +kernel
  cases d with
  | nan => exact h.elim
  | inf s =>
    refine ⟨s, 2139095040, Nat.le_refl _, ?_⟩
    show (s.toNat * FP.Core.Fmt.exps FP.Core.b32 + (FP.Core.Fmt.exps FP.Core.b32 - 1)) * FP.Core.Fmt.tails FP.Core.b32 + 0 = _
    rw [e1, e2]
    omega
  | fin s c q =>
    obtain ⟨h1, h2⟩ := h
    unfold FP.Core.encode FP.Core.assemble
    simp only [e1, e2, e3]
    by_cases hc : c < 8388608
    · rw [if_pos hc]
      exact ⟨s, c, by omega, by omega⟩
    · rw [if_neg hc]
      refine ⟨s, ((q - -149).toNat + 1) * 8388608 + (c - 8388608), by omega, by omega⟩
theorem fk_n32 {d : FP.Core.Datum} (h : fk_ok d) : vf_n32 (UInt32.ofNat (FP.Core.encode FP.Core.b32 d)) := by
  obtain ⟨s, m, h1, h2⟩ := fk_enc h
  rw [h2]
  unfold vf_n32
  rw [UInt32.le_iff_toNat_le, UInt32.toNat_and, UInt32.toNat_ofNat']
  have e : (2147483647 : UInt32).toNat = 2 ^ 31 - 1 := rfl
  have e2 : (2139095040 : UInt32).toNat = 2139095040 := rfl
  show ((s.toNat * 2147483648 + m) % 2 ^ 32 &&& (2147483647 : UInt32).toNat) ≤ (2139095040 : UInt32).toNat
  rw [e, e2, Nat.and_two_pow_sub_one_eq_mod]
  have : s.toNat ≤ 1 := by cases s <;> decide
  omega
