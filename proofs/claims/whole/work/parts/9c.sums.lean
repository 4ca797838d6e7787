/-! ===== sums over slots and over rows ===== -/
section SWP
theorem sm_swp2 (F : Nat → Nat → Nat) (M : Nat) : ∀ N, fb_sm (fun i => fb_sm (fun j => F i j) M) N = fb_sm (fun j => fb_sm (fun i => F i j) N) M
  | 0 => by
    show 0 = fb_sm (fun _ => 0) M
    rw [fb_sm_const, Nat.mul_zero]
  | N + 1 => by
    rw [fb_sm_succ, sm_swp2 F M N, ← fb_sm_add]
    exact fb_sm_cong (fun j _ => (fb_sm_succ (fun i => F i j) N).symm)
theorem sm_one {f : Nat → Nat} {M p : Nat} (hp : p < M) : fb_sm (fun j => if p = j then f j else 0) M = f p := by
  have e : fb_sm (fun j => if p = j then f j else 0) M = fb_sm (fun j => if j = p then f p else (fun _ => 0) j) M := fb_sm_cong (fun j _ => by
    by_cases q : p = j
    · rw [if_pos q, if_pos q.symm, q]
    · rw [if_neg q, if_neg (fun e => q e.symm)])
  have u := fb_sm_upd (fun _ => 0) (f p) hp
  rw [e]
  have z : fb_sm (fun _ => 0) M = 0 := by rw [fb_sm_const, Nat.mul_zero]
  rw [z, Nat.zero_add, Nat.add_zero] at u
  exact u
/-- a sum over the slots is one over the rows -/
theorem wy_sum {N M : Nat} {K V g : Nat → Nat} (hK : ∀ j, j < N → V j ≠ 0 → K j < M) : fb_sm (fun j => V j * g (K j)) N = fb_sm (fun s => wy N K V s * g s) M := by
  have e1 : fb_sm (fun s => wy N K V s * g s) M = fb_sm (fun s => fb_sm (fun j => if K j = s then V j * g s else 0) N) M := fb_sm_cong (fun s _ => by
    unfold wy
    have : ∀ n, fb_sm (fun j => if K j = s then V j else 0) n * g s = fb_sm (fun j => if K j = s then V j * g s else 0) n := by
      intro n
      induction n with
      | zero => exact Nat.zero_mul _
      | succ n ih =>
        rw [fb_sm_succ, fb_sm_succ, Nat.add_mul, ih]
        by_cases q : K n = s
        · rw [if_pos q, if_pos q]
        · rw [if_neg q, if_neg q, Nat.zero_mul]
    exact this N)
  rw [e1, sm_swp2]
  refine fb_sm_cong (fun j hj => ?_)
  by_cases q : V j = 0
  · rw [q, Nat.zero_mul]
    have : fb_sm (fun s => if K j = s then 0 * g s else 0) M = fb_sm (fun _ => 0) M := fb_sm_cong (fun s _ => by rw [Nat.zero_mul]; split <;> rfl)
    rw [this, fb_sm_const, Nat.mul_zero]
  · exact (sm_one (f := fun s => V j * g s) (hK j hj q)).symm
end SWP
