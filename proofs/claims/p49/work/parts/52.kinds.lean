/-! ===== bits of a long by taking the lowest away; typed cells ===== -/
theorem ct_pred (c : Int64) {i : Nat} (hi : i < 64) : ct (c - 1) i = !ct (-c) i := by
  have h1 := BitVec.neg_eq_not_add (-c.toBitVec)
  rw [BitVec.neg_neg] at h1
  have h : c.toBitVec - 1#64 = ~~~(-c.toBitVec) := by
    calc c.toBitVec - 1#64 = (~~~(-c.toBitVec) + 1#64) - 1#64 := by rw [← h1]
      _ = ~~~(-c.toBitVec) := BitVec.add_sub_cancel _ _
  show (c.toBitVec - 1#64).getLsbD i = !(-c.toBitVec).getLsbD i
  rw [h, BitVec.getLsbD_not, decide_eq_true hi, Bool.true_and]
theorem ct_first {f : Nat → Bool} : ∀ i, f i = true → ∃ k, k ≤ i ∧ f k = true ∧ ∀ j, j < k → f j = false := by
  intro i
  induction i using Nat.strongRecOn with
  | _ i ih =>
    intro hi
    by_cases q : ∃ j, j < i ∧ f j = true
    · obtain ⟨j, h1, h2⟩ := q
      obtain ⟨k, a, b, c⟩ := ih j h1 h2
      exact ⟨k, by omega, b, c⟩
    · exact ⟨i, Nat.le_refl _, hi, fun j hj => by
        cases e : f j
        · rfl
        · exact absurd ⟨j, hj, e⟩ q⟩
section KINDS
variable {z : tq_S} {Q : tq_O → tq_S → Prop}
end KINDS
