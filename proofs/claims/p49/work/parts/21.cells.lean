/-! ===== cells, has ===== -/
def dk (j : Nat) : Bool := decide ((j % 8 + j / 8) % 2 = 0)
theorem dk_c (j : Nat) (h : j < 64) : ct (-6172840429334713771 : Int64) j = dk j := by
  have : ∀ j : Fin 64, ct (-6172840429334713771 : Int64) j.val = dk j.val := by decide +kernel
  exact this ⟨j, h⟩
section CELLS
variable {w h : Nat} {r : Bool} {S : Nat → Bool} {z : tq_S} {Q : tq_O → tq_S → Prop}
theorem sc_cells {c : Int32} (hj : jc w h r S z) (k0 : ¬ c = 97 → ¬ c = 100 → Q (.inr 1) z) (k1 : c = 97 ∨ c = 100 → Q (.inl (some (.int (nI (fb_ct (fun j => S j && (decide (c = 97) || dk j)) 64))))) z) : wm_X11_cells c z Q := by
  have main : c = 97 ∨ c = 100 → wc_X11_cells_22 Q c z := by
    intro hc
    unfold wc_X11_cells_22
    refine ⟨fun h1 => ?_, fun h1 => ?_⟩
    · refine sp_bc ⟨_, rfl, ?_⟩
      have e : fb_ct (ct (tq_fl z 67 &&& (-6172840429334713771 : Int64))) 64 = fb_ct (fun j => S j && (decide (c = 97) || dk j)) 64 := by
        refine fb_ct_cong (fun j hl => ?_)
        rw [ct_and, dk_c j hl, hj.2.2.2, decide_eq_false h1, Bool.false_or]
      rw [e]; exact k1 hc
    · refine sq_size hj ⟨_, rfl, ?_⟩
      have e : fb_ct S 64 = fb_ct (fun j => S j && (decide (c = 97) || dk j)) 64 := by
        refine fb_ct_cong (fun j hl => ?_)
        rw [decide_eq_true h1, Bool.true_or, Bool.and_true]
      rw [e]; exact k1 hc
  unfold wm_X11_cells
  exact ⟨fun h1 => main (Or.inl h1), fun h1 => ⟨fun h2 => main (Or.inr h2), fun h2 => k0 h1 h2⟩⟩
theorem sc_has {x y : Int32} (hd : jd w h r S) (hj : jc w h r S z) (k : Q (.inl (some (.int (bi (ho w h S x y))))) z) : wm_X11_has x y z Q := by
  unfold wm_X11_has
  exact sq_holds hd.2.1 hd.2.2.2.1 hj ⟨_, rfl, bi_z, k⟩
end CELLS
