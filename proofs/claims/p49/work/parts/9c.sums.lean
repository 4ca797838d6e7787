section SWP
theorem sm_swp2 (F : Nat → Nat → Nat) (M : Nat) : ∀ N, fb_sm (fun i => fb_sm (fun j => F i j) M) N = fb_sm (fun j => fb_sm (fun i => F i j) N) M
  | 0 => by
    show 0 = fb_sm (fun _ => 0) M
    rw [fb_sm_const, Nat.mul_zero]
  | N + 1 => by
    rw [fb_sm_succ, sm_swp2 F M N, ← fb_sm_add]
    exact fb_sm_cong (fun j _ => (fb_sm_succ (fun i => F i j) N).symm)
theorem sm_one {f : Nat → Nat} {M p : Nat} (hp : p < M) : fb_sm (fun j => if p = j then f j else 0) M = f p := by
  have e : fb_sm (fun j => if p = j then f j else 0) M = fb_sm (fun j => if j = p then f p else (fun _ => 0) j) M := fb_sm_cong (fun j _ => by
    by_cases q : p = j
    · rw [if_pos q, if_pos q.symm, q]
    · rw [if_neg q, if_neg (fun e => q e.symm)])
  have u := fb_sm_upd (fun _ => 0) (f p) hp
  rw [e]
  have z : fb_sm (fun _ => 0) M = 0 := by rw [fb_sm_const, Nat.mul_zero]
  rw [z, Nat.zero_add, Nat.add_zero] at u
  exact u
end SWP
