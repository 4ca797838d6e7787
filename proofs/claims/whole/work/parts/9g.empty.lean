/-! ===== an empty table, and a copied one ===== -/
section EMP
theorem ht_zero {A : Nat → Int64} (h : ∀ j, j < 1024 → A j = 0) : HT (fun _ => 0) (fun _ => 0) A := ⟨fun j hj => by rw [h j hj]; exact (if_pos rfl).symm, fun _ _ e => absurd rfl e, fun _ _ e => absurd rfl e, fun _ _ _ _ e => absurd rfl e⟩
theorem tot_zero (N : Nat) : tot N (fun _ => 0) = 0 := by
  unfold tot
  rw [fb_sm_const, Nat.mul_zero]
theorem wy_zero (N t : Nat) : wy N (fun _ => 0) (fun _ => 0) t = 0 := by
  unfold wy
  have : fb_sm (fun _ : Nat => if 0 = t then 0 else 0) N = fb_sm (fun _ => 0) N := fb_sm_cong (fun _ _ => by split <;> rfl)
  rw [this, fb_sm_const, Nat.mul_zero]
theorem ht_same {K V : Nat → Nat} {A A' : Nat → Int64} (h : HT K V A) (e : ∀ j, j < 1024 → A' j = A j) : HT K V A' := ⟨fun j hj => by rw [e j hj]; exact h.1 j hj, h.2⟩
end EMP
