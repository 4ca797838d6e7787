section HVZ
variable {w h : Nat} {r : Bool} {S : Nat → Bool} {z : tq_S} {Q : tq_O → tq_S → Prop}
def hvz (w h : Nat) (r : Bool) (S : Nat → Bool) (z : tq_S) : Prop := ∀ i, i < 128 → (∀ x y W, x < w → y < h → wpc w r x W → S (8 * y + x) = true → S (ot w x y W) = true → hdx w x y W ≠ i) → tq_al z 7 i = 0
theorem af_pc {x y st way n : Nat} (h0 : way ≠ 0) (e : af w h r S x y st way = some n) : S (8 * y + x) = true ∧ wpc w r x way ∧ S (ot w x y way) = true := by
  unfold af at e
  split at e
  · rw [if_neg (fun u => h0 u.1)] at e; cases e
  split at e
  · first | cases e | (rw [if_neg h0] at e; cases e)
  rename_i hA hB
  have sc : S (8 * y + x) = true := (Classical.byContradiction hB).1
  split at e
  · rename_i w1
    subst w1
    split at e
    · rename_i hC
      exact ⟨sc, Or.inl ⟨rfl, hC.1⟩, hC.2.1⟩
    · cases e
  split at e
  · rename_i w2
    subst w2
    split at e
    · rename_i hC
      exact ⟨sc, Or.inr (Or.inl rfl), hC.2⟩
    · cases e
  split at e
  · rename_i hC
    obtain ⟨c1, c2, c3, c4, _⟩ := hC
    subst c1
    exact ⟨sc, Or.inr (Or.inr ⟨rfl, c3, c2⟩), c4⟩
  · cases e
theorem hT_no {x y i : Nat} {C : Nat → Nat} {M : Nat} (hd : jd w h r S) (hx : x < w) (hy : y < h) (hi : i < 128) (no : ∀ x y W, x < w → y < h → wpc w r x W → S (8 * y + x) = true → S (ot w x y W) = true → hdx w x y W ≠ i) : hT w h r S x y C M i = 0 := by
  unfold hT
  rw [show fb_sm (fun k => if hdx w x y (k % 4) = i then C (k / 4) * vo w r S (x + 1) y (af w h r S x y (k / 4) (k % 4)) else 0) M = fb_sm (fun _ => 0) M from fb_sm_cong (fun k _ => by
    by_cases u : hdx w x y (k % 4) = i
    · rw [if_pos u]
      cases a : af w h r S x y (k / 4) (k % 4) with
      | none => show C (k / 4) * 0 = 0; omega
      | some n =>
        by_cases k0 : k % 4 = 0
        · rw [k0] at u
          have : hdx w x y 0 = 1000 := rfl
          omega
        · obtain ⟨a1, a2, a3⟩ := af_pc k0 a
          exact absurd u (no x y _ hx hy a2 a1 a3)
    · rw [if_neg u])]
  exact fb_sm_0 M
end HVZ
