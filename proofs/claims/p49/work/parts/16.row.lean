/-! ===== a row filled, and the rows one after another ===== -/
def cv_S (S : Nat → Bool) (y m : Nat) : Nat → Bool := fun j => S j && !(decide (j / 8 = y) && m.testBit (j % 8))
/-- the cells lie in a rectangle -/
def cv_re (w h : Nat) (S : Nat → Bool) : Prop := ∀ j, S j = true → j < 64 ∧ j % 8 < w ∧ j / 8 < h
theorem sm_mul (c : Nat) (f : Nat → Nat) : ∀ n, fb_sm (fun k => c * f k) n = c * fb_sm f n
  | 0 => (Nat.mul_zero c).symm
  | n + 1 => by rw [fb_sm_succ, fb_sm_succ, sm_mul c f n, Nat.mul_add]
theorem sm_mulr (c : Nat) (f : Nat → Nat) (n : Nat) : fb_sm (fun k => f k * c) n = fb_sm f n * c := by
  rw [Nat.mul_comm, ← sm_mul]
  exact fb_sm_cong (fun k _ => Nat.mul_comm _ _)
theorem cv_rm_f {S : Nat → Bool} {a b j : Nat} (h1 : j ≠ a) (h2 : j ≠ b) : cv_rm S a b j = S j := by
  unfold cv_rm; simp [h1, h2]
theorem cv_rm_a {S : Nat → Bool} {a b : Nat} : cv_rm S a b a = false := by unfold cv_rm; simp
theorem cv_rm_b {S : Nat → Bool} {a b : Nat} : cv_rm S a b b = false := by unfold cv_rm; simp
section CVF
variable {w h : Nat} {r : Bool} {S : Nat → Bool}
end CVF
