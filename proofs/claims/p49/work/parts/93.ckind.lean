/-- different shapes, one behind the other -/
noncomputable def pl (f : Nat → Int64) (me : Nat → Bool) : Nat → Nat × (Nat → Int64)
  | 0 => (0, fun _ => 0)
  | m + 1 => @ite _ (me m = true ∧ ¬ ∃ i, i < (pl f me m).1 ∧ (pl f me m).2 i = f m) (Classical.propDecidable _) ((pl f me m).1 + 1, fun i => if i = (pl f me m).1 then f m else (pl f me m).2 i) (pl f me m)
section PL
variable {f : Nat → Int64} {me : Nat → Bool} {m : Nat}
end PL
noncomputable def nzs (V : Int → Int → Prop) : Int64 := @dite _ (∃ s, nz V s) (Classical.propDecidable _) (fun h => Classical.choose h) (fun _ => 0)
theorem nzs_e {V : Int → Int → Prop} {s : Int64} (h : nz V s) : s = nzs V := by
  have ex : ∃ s, nz V s := ⟨s, h⟩
  unfold nzs
  rw [dif_pos ex]
  exact nz_1 h (Classical.choose_spec ex)
noncomputable def shf (T : Int64) (m : Nat) : Int64 := nzs (mo m (bsh T))
section CKIND
variable {z : tq_S} {Q : tq_O → tq_S → Prop} {T : Int64} {n : Nat} {C : Nat → Nat}
theorem sq_isShapeOf {k : Nat} {s : Int64} (hk : k < 6) (hC : tq_ai z 25 k = nI (C k)) (h8 : C k ≤ 8) (k0 : (¬ ∃ i, i < C k ∧ tq_al z 24 (8 * k + i) = s) → Q (.inl (some (.int 0))) z) (k1 : (∃ i, i < C k ∧ tq_al z 24 (8 * k + i) = s) → Q (.inl (some (.int 1))) z) : wm_X8_isShapeOf (nI k) s z Q := by
  unfold wm_X8_isShapeOf wc_X8_isShapeOf_3
  refine lp_inv (fun i st => st = (nI i, z) ∧ ∀ j, j < i → tq_al z 24 (8 * k + j) ≠ s) (C k) ?_ ⟨rfl, fun j hj => absurd hj (by omega)⟩
  rintro i st hi ⟨rfl, hn⟩ B hB
  simp only
  unfold wb_X8_isShapeOf_3
  rw [i_cl (by omega), hC, i_le (by omega) (by omega), i_8, pk_mul, i_add, i_cl (by omega), show k * 8 + i = 8 * k + i by omega]
  refine ⟨i_in hk (by omega), fun q => k0 ?_, fun q => ⟨i_in (by omega) (by omega), fun u v e => ?_, fun u => k1 ⟨i, by omega, u⟩⟩⟩
  · rintro ⟨j, hj, e⟩
    exact hn j (by omega) e
  · rw [i_1, i_add] at e
    subst e
    refine hB (by omega) _ ⟨rfl, fun j hj => ?_⟩
    by_cases q2 : j = i
    · rw [q2]; exact u
    · exact hn j (by omega)
end CKIND
