/-! ===== the reference: beside, seen, parts, holes ===== -/
def bs (w h : Nat) (r : Bool) (c k : Nat) : Option Nat := if k = 0 then (if c % 8 + 1 < w then some (c + 1) else if r = true then some (c - (w - 1)) else none) else if k = 1 then (if 0 < c % 8 then some (c - 1) else if r = true then some (c + (w - 1)) else none) else if k = 2 then (if c / 8 + 1 < h then some (c + 8) else none) else (if 0 < c / 8 then some (c - 8) else none)
def bo : Option Nat → Int32
  | none => -1
  | some o => nI o
theorem bs_nb {w h : Nat} {r : Bool} {c o : Nat} (bw : w ≤ 8) (bh : h ≤ 8) (h1 : c % 8 < w) (h2 : c / 8 < h) (h3 : o % 8 < w) (h4 : o / 8 < h) : (∃ k, k < 4 ∧ bs w h r c k = some o) ↔ nb w r c o = true := by
  unfold nb
  simp only [Bool.or_eq_true, Bool.and_eq_true, decide_eq_true_eq]
  constructor
  · rintro ⟨k, hk, e⟩
    unfold bs at e
    split at e
    · split at e
      · cases e; exact Or.inl (Or.inl (Or.inl (Or.inr ⟨rfl, by omega⟩)))
      · split at e
        · rename_i hr; cases e; exact Or.inr ⟨⟨hr, by omega⟩, by omega⟩
        · cases e
    · split at e
      · split at e
        · cases e; exact Or.inl (Or.inl (Or.inr ⟨by omega, by omega⟩))
        · split at e
          · rename_i hr; cases e; exact Or.inl (Or.inr ⟨⟨hr, by omega⟩, rfl⟩)
          · cases e
      · split at e
        · split at e
          · cases e; exact Or.inl (Or.inl (Or.inl (Or.inl (Or.inl rfl))))
          · cases e
        · split at e
          · cases e; exact Or.inl (Or.inl (Or.inl (Or.inl (Or.inr (by omega)))))
          · cases e
  · rintro (((((e | e) | e) | e) | e) | e)
    · refine ⟨2, by omega, ?_⟩
      unfold bs; rw [if_neg (by omega), if_neg (by omega), if_pos rfl, if_pos (by omega), e]
    · refine ⟨3, by omega, ?_⟩
      unfold bs; rw [if_neg (by omega), if_neg (by omega), if_neg (by omega), if_pos (by omega)]
      exact congrArg some (by omega)
    · refine ⟨0, by omega, ?_⟩
      unfold bs; rw [if_pos rfl, if_pos e.2, e.1]
    · refine ⟨1, by omega, ?_⟩
      unfold bs; rw [if_neg (by omega), if_pos rfl, if_pos (by omega)]
      exact congrArg some (by omega)
    · refine ⟨1, by omega, ?_⟩
      unfold bs; rw [if_neg (by omega), if_pos rfl, if_neg (by omega), if_pos e.1.1, e.2]
    · refine ⟨0, by omega, ?_⟩
      unfold bs; rw [if_pos rfl, if_neg (by omega), if_pos e.1.1]
      exact congrArg some (by omega)
theorem i_m1 {a : Nat} (h : 1 ≤ a) : nI a + (-1 : Int32) = nI (a - 1) := by
  obtain ⟨b, rfl⟩ : ∃ b, a = b + 1 := ⟨a - 1, by omega⟩
  exact pk_m1 b
section RBES
variable {w h : Nat} {r : Bool} {S : Nat → Bool} {z : tq_S} {Q : tq_O → tq_S → Prop}
end RBES
