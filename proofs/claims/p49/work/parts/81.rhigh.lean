section RHIGH2
variable {w h : Nat} {r : Bool} {S : Nat → Bool} {p p' : Nat → Nat} {H H' : Nat → Int} {z : tq_S} {Q : tq_O → tq_S → Prop}
theorem pln_f : (r || decide (0 < gr_n w r (mi w h S) (rim w h r))) = !pln w h r S := by
  unfold pln
  cases r
  · by_cases q : gr_n w false (mi w h S) (rim w h false) = 0
    · rw [q]; rfl
    · rw [decide_eq_true (by omega), decide_eq_false q]; rfl
  · rfl
end RHIGH2
