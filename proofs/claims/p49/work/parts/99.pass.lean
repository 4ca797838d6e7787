section PAS
variable {w h : Nat} {r : Bool} {S : Nat → Bool} {z : tq_S} {Q : tq_O → tq_S → Prop}
theorem ho_S {x y : Nat} (hw8 : w ≤ 8) (hh8 : h ≤ 8) (e : ho w h S (nI x) (nI y) = true) (hx : x < 9) (hy : y < 9) : S (8 * y + x) = true := by
  unfold ho at e
  rw [i_ti (by omega), i_ti (by omega)] at e
  simp only [Bool.and_eq_true] at e
  exact e.2
end PAS
