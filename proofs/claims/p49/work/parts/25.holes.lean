section HOLES
variable {w h : Nat} {r : Bool} {S s0 : Nat → Bool} {z : tq_S} {Q : tq_O → tq_S → Prop} {c : Nat}
theorem re_t {j : Nat} (h1 : j % 8 < w) (h2 : j / 8 < h) : re_S w h j = true := by
  unfold re_S; rw [decide_eq_true h1, decide_eq_true h2]; rfl
end HOLES
