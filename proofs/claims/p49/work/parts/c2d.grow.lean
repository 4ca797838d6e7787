/-! ===== the number of exact covers: shapes that hang together grow cell by cell ===== -/
def adV (x y x' y' : Int) : Prop := (x' = x ∧ (y' = y + 1 ∨ y' = y - 1)) ∨ (y' = y ∧ (x' = x + 1 ∨ x' = x - 1))
/-- V hangs together -/
def cnV (V : Int → Int → Prop) : Prop := ∀ B : Int → Int → Prop, (∃ x y, V x y ∧ B x y) → (∀ x y x' y', V x y → B x y → V x' y' → adV x y x' y' → B x' y') → ∀ x y, V x y → B x y
theorem grow {V : Int → Int → Prop} (hc : cnV V) (l : List (Int × Int)) (hl : ∀ e ∈ l, V e.1 e.2) (h0 : ∃ e, e ∈ l) (hx : ∃ x y, V x y ∧ (x, y) ∉ l) : ∃ a ∈ l, ∃ b : Int × Int, b ∉ l ∧ V b.1 b.2 ∧ adV a.1 a.2 b.1 b.2 := by
  refine Classical.byContradiction (fun no => ?_)
  obtain ⟨x, y, v, n⟩ := hx
  obtain ⟨e, he⟩ := h0
  refine n (hc (fun x y => (x, y) ∈ l) ⟨e.1, e.2, hl e he, he⟩ (fun x y x' y' v1 m1 v2 ad => ?_) x y v)
  refine Classical.byContradiction (fun q => no ⟨(x, y), m1, (x', y'), q, v2, ad⟩)
