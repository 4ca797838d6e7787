/-! ===== cells, has ===== -/
def dk (j : Nat) : Bool := decide ((j % 8 + j / 8) % 2 = 0)
theorem dk_c (j : Nat) (h : j < 64) : ct (-6172840429334713771 : Int64) j = dk j := by
  have : ∀ j : Fin 64, ct (-6172840429334713771 : Int64) j.val = dk j.val := by decide +kernel
  exact this ⟨j, h⟩
section CELLS
variable {w h : Nat} {r : Bool} {S : Nat → Bool} {z : tq_S} {Q : tq_O → tq_S → Prop}
theorem sc_cells {c : Int32} (hj : jc w h r S z) (k0 : ¬ c = 97 → ¬ c = 100 → Q (.inr 1) z) (k1 : c = 97 ∨ c = 100 → Q (.inl (some (.int (nI (fb_ct (fun j => S j && (decide (c = 97) || dk j)) 64))))) z) : wm_X11_cells c z Q := by
  have main : c = 97 ∨ c = 100 → wc_X11_cells_22 Q c z := by
    intro hc
    unfold wc_X11_cells_22
    refine ⟨fun h1 => ?_, fun h1 => ?_⟩
    · refine sp_bc ⟨_, rfl, ?_⟩
      have e : fb_ct (ct (tq_fl z 67 &&& (-6172840429334713771 : Int64))) 64 = fb_ct (fun j => S j && (decide (c = 97) || dk j)) 64 := by
        refine fb_ct_cong (fun j hl => ?_)
        rw [ct_and, dk_c j hl, hj.2.2.2, decide_eq_false h1, Bool.false_or]
      rw [e]; exact k1 hc
    · refine sq_size hj ⟨_, rfl, ?_⟩
      have e : fb_ct S 64 = fb_ct (fun j => S j && (decide (c = 97) || dk j)) 64 := by
        refine fb_ct_cong (fun j hl => ?_)
        rw [decide_eq_true h1, Bool.true_or, Bool.and_true]
      rw [e]; exact k1 hc
  unfold wm_X11_cells
  exact ⟨fun h1 => main (Or.inl h1), fun h1 => ⟨fun h2 => main (Or.inr h2), fun h2 => k0 h1 h2⟩⟩
theorem sq_isDark {x y : Nat} (hx : x < 1000) (hy : y < 1000) (k : Q (.inl (some (.int (bi (decide ((x + y) % 2 = 0)))))) z) : wm_X12_isDark (nI x) (nI y) z Q := by
  unfold wm_X12_isDark
  rw [i_add, i_1, i_and, Nat.and_one_is_mod, i_0, i_eq (by omega) (by omega)]
  refine ⟨fun h1 => ?_, fun h1 => ?_⟩
  · rw [decide_eq_false h1] at k; exact k
  · rw [decide_eq_true h1] at k; exact k
theorem sr_cells {c : Int32} (hj : jr w h r S z) (k0 : ¬ c = 97 → ¬ c = 100 → ∀ z', fr [(0, 3264)] z z' → tq_fi z' 3264 = 1 → Q (.inl (some (.int 0))) z') (k1 : c = 97 ∨ c = 100 → ∀ z', fr [(0, 3264)] z z' → tq_fi z' 3264 = 0 → Q (.inl (some (.int (nI (fb_ct (fun j => S j && (decide (c = 97) || dk j)) 64))))) z') : wm_X12_cells c z Q := by
  have main : c = 97 ∨ c = 100 → wc_X12_cells_18 Q c (bi false) z := by
    intro hc
    unfold wc_X12_cells_18
    refine sq_isThrown (b := false) (a := 1) (fun z1 f1 e1 => ⟨_, rfl, fun _ => ?_, fun h3 => absurd rfl h3⟩)
    have j1 := jr_f f1 (by decide) (by decide) (by decide) (by decide) hj
    unfold wc_X12_cells_31
    refine lp_for (fun m => (nI (fb_ct (fun j => S j && (decide (c = 97) || dk j)) m), nI m, z1)) 64 ?_ rfl
    intro m hm B hB
    simp only
    unfold wb_X12_cells_31
    rw [i_64]
    refine ⟨fun h1 => ?_, fun h1 => ?_⟩
    · rw [i_le (by omega) (by omega)] at h1
      have : m = 64 := by omega
      subst this; exact k1 hc z1 f1 e1
    · rw [i_le (by omega) (by omega)] at h1
      have hB := hB (by omega)
      rw [fb_ct_succ] at hB
      have yes : (S m && (decide (c = 97) || dk m)) = true → wc_X12_cells_67 (fun b2 b3 z => B (b2, b3, z)) Q c (nI m) (nI (fb_ct (fun j => S j && (decide (c = 97) || dk j)) m)) z1 := by
        intro e
        rw [e] at hB
        unfold wc_X12_cells_67 wc_X12_cells_72
        intro v1 q1 v2 q2
        rw [q1, q2, i_1, i_add, i_add]; exact hB
      have no : (S m && (decide (c = 97) || dk m)) = false → wc_X12_cells_71 (fun b2 b3 z => B (b2, b3, z)) Q c (nI m) (nI (fb_ct (fun j => S j && (decide (c = 97) || dk j)) m)) z1 := by
        intro e
        rw [e] at hB
        unfold wc_X12_cells_71 wc_X12_cells_72
        intro v1 q1 v2 q2
        rw [q1, q2, i_1, i_0, i_add, i_add]; exact hB
      rw [i_cl (by omega), j1.2 m (by omega)]
      refine ⟨i_in (by omega) (by omega), fun h2 => no ?_, fun h2 => ⟨fun h3 => yes ?_, fun h3 => ?_⟩⟩
      · rw [bi_0] at h2; rw [h2]; rfl
      · rw [bi_n] at h2; rw [h2, decide_eq_true h3]; rfl
      · rw [bi_n] at h2
        rw [i_8, pk_rem (by omega) (by omega) (by omega), pk_div (by omega) (by omega) (by omega)]
        refine sq_isDark (by omega) (by omega) ⟨_, rfl, fun h4 => no ?_, fun h4 => yes ?_⟩
        · rw [bi_0] at h4
          have : dk m = false := h4
          rw [h2, decide_eq_false h3, this]; rfl
        · rw [bi_n] at h4
          have : dk m = true := h4
          rw [h2, this]; simp
  unfold wm_X12_cells
  refine ⟨fun h1 => ?_, fun h1 => ⟨fun h2 => ?_, fun h2 => ?_⟩⟩
  · unfold wc_X12_cells_17; exact main (Or.inl h1)
  · unfold wc_X12_cells_17; exact main (Or.inr h2)
  · unfold wc_X12_cells_18
    exact sq_isThrown (b := true) (a := 1) (fun z1 f1 e1 => ⟨_, rfl, fun h3 => (by cases h3), fun _ => k0 h1 h2 z1 f1 e1⟩)
theorem sc_has {x y : Int32} (hd : jd w h r S) (hj : jc w h r S z) (k : Q (.inl (some (.int (bi (ho w h S x y))))) z) : wm_X11_has x y z Q := by
  unfold wm_X11_has
  exact sq_holds hd.2.1 hd.2.2.2.1 hj ⟨_, rfl, bi_z, k⟩
theorem sr_has {x y : Int32} (hd : jd w h r S) (hj : jr w h r S z) (k : ∀ z', fr [(0, 3264)] z z' → Q (.inl (some (.int (bi (ho w h S x y))))) z') : wm_X12_has x y z Q := by
  unfold wm_X12_has
  intro z1 e1
  have f1 : fr [(0, 3264)] z z1 := by rw [e1]; exact fr_sfi (by decide) fr_r
  have j1 := jr_f f1 (by decide) (by decide) (by decide) (by decide) hj
  exact sq_isCell hd.1 hd.2.1 hd.2.2.1 hd.2.2.2.1 j1 ⟨_, rfl, bi_z, k z1 f1⟩
end CELLS
