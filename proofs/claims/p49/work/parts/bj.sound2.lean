section SN2
variable {z : tq_S} {Q : tq_O → tq_S → Prop} {n : Nat}
def FLk : List (Nat × Nat) := [(0, 3073), (0, 3074), (2, 49)]
theorem sq_isLike (hb : bw n z) (h1 : tq_fi z 2946 = 0) (hk : bwk n z) (h2 : tq_fi z 3074 = 0) (k : Q (.inl (some (.int 1))) z) : wm_X0_isLike z Q := by
  obtain ⟨b1, b2, b3⟩ := hb
  obtain ⟨k1, k2, k3⟩ := hk
  unfold wm_X0_isLike
  rw [b2, k2, h1, h2]
  refine ⟨fun u => absurd rfl u, fun _ => ⟨fun _ => ?_, fun u => absurd rfl u⟩⟩
  unfold wc_X0_isLike_30
  refine lp_inv (fun i s => s = (nI i, z)) (nd n) ?_ rfl
  rintro i s hi rfl B hB
  simp only
  unfold wb_X0_isLike_30
  rw [b2, i_le (by omega) (by omega)]
  refine ⟨fun _ => k, fun q => ⟨i_in (by omega) (by omega), i_in (by omega) (by omega), fun _ v e => ?_, fun ne => absurd ?_ ne⟩⟩
  · rw [i_1, i_add] at e
    subst e
    exact hB (by omega) _ rfl
  · rw [i_cl (by omega), b3 i (by omega), k3 i (by omega)]
theorem sn_strips (k : ∀ z', fr (FG ++ [(3, 40), (3, 41)] ++ FLk) z z' → Q (.inl (some (.int 1))) z') : wm_X11_stripsAreSound z Q := by
  unfold wm_X11_stripsAreSound wc_X11_stripsAreSound_2
  show tq_lp _ ((nI (0 + 1) : Int32), z)
  refine lp_inv (fun i s => ∃ z1, s = (nI (i + 1), z1) ∧ fr (FG ++ [(3, 40), (3, 41)] ++ FLk) z z1) 4 ?_ ⟨z, rfl, fr_r⟩
  rintro i s hi ⟨z1, rfl, f1⟩ B hB
  simp only
  unfold wb_X11_stripsAreSound_2
  rw [i_4, i_lt (by omega) (by omega)]
  refine ⟨fun _ => k z1 f1, fun q => ?_⟩
  unfold wc_X11_stripsAreSound_9
  refine lp_inv (fun m s => ∃ z2, s = (nI m, z2) ∧ fr (FG ++ [(3, 40), (3, 41)] ++ FLk) z z2) 31 ?_ ⟨z1, rfl, f1⟩
  rintro m s hm ⟨z2, rfl, f2⟩ B2 hB2
  simp only
  unfold wb_X11_stripsAreSound_9
  rw [i_30, i_lt (by omega) (by omega)]
  refine ⟨fun _ => ?_, fun q2 => ?_⟩
  · unfold wc_X11_stripsAreSound_66
    intro v e
    rw [i_1, i_add] at e
    subst e
    exact hB (by omega) _ ⟨z2, rfl, f2⟩
  have hw : wd (i + 1) := by unfold wd; omega
  refine sq_byRule hw (by omega) (fun z3 f3 b3 n3 => ⟨rfl, ?_⟩)
  refine sq_byFront hw (by omega) (fun z4 f4 => ⟨_, rfl, ?_⟩)
  dsimp only
  rw [bf_X hw (by omega) (Or.inr (by omega))]
  have sm : sN (i + 1) m < 9223372036854775808 := by
    have : ∀ a : Fin 4, ∀ b : Fin 31, sN (a.val + 1) b.val < 9223372036854775808 := by decide +kernel
    exact this ⟨i, by omega⟩ ⟨m, by omega⟩
  refine sq_putWk sm (fun z5 f5 b5 n5 => ⟨rfl, ?_⟩)
  have f45 : fr ([(3, 40), (3, 41)] ++ FLk) z3 z5 := fr_t (fr_m (by decide) f4) (fr_m (by decide) f5)
  refine sq_isLike (bw_f f45 (by decide) (by decide) b3) (by rw [fr_fi f45 (by decide)]; exact n3) b5 n5 ⟨_, rfl, fun _ v e => ?_, fun u => absurd u (by decide +kernel)⟩
  rw [i_1, i_add] at e
  subst e
  exact hB2 (by omega) _ ⟨z5, rfl, fr_t f2 (fr_t (fr_m (by decide) f3) (fr_m (by decide) f45))⟩
theorem sn_hexagons (k : ∀ z', fr (FX ++ FLk) z z' → Q (.inl (some (.int 1))) z') : wm_X11_hexagonsAreSound z Q := by
  unfold wm_X11_hexagonsAreSound wc_X11_hexagonsAreSound_2
  show tq_lp _ ((nI (0 + 1) : Int32), z)
  refine lp_inv (fun i s => ∃ z1, s = (nI (i + 1), z1) ∧ fr (FX ++ FLk) z z1) 3 ?_ ⟨z, rfl, fr_r⟩
  rintro i s hi ⟨z1, rfl, f1⟩ B hB
  simp only
  unfold wb_X11_hexagonsAreSound_2
  rw [i_3, i_lt (by omega) (by omega)]
  refine ⟨fun _ => k z1 f1, fun q => ?_⟩
  unfold wc_X11_hexagonsAreSound_9
  show tq_lp _ ((nI (0 + 1) : Int32), z1)
  refine lp_inv (fun m s => ∃ z2, s = (nI (m + 1), z2) ∧ fr (FX ++ FLk) z z2) 3 ?_ ⟨z1, rfl, f1⟩
  rintro m s hm ⟨z2, rfl, f2⟩ B2 hB2
  simp only
  unfold wb_X11_hexagonsAreSound_9
  rw [i_3, i_lt (by omega) (by omega)]
  refine ⟨fun _ => ?_, fun q2 => ?_⟩
  · unfold wc_X11_hexagonsAreSound_73
    intro v e
    rw [i_1, i_add] at e
    subst e
    exact hB (by omega) _ ⟨z2, rfl, f2⟩
  unfold wc_X11_hexagonsAreSound_16
  show tq_lp _ ((nI (0 + 1) : Int32), z2)
  refine lp_inv (fun l s => ∃ z3, s = (nI (l + 1), z3) ∧ fr (FX ++ FLk) z z3) 3 ?_ ⟨z2, rfl, f2⟩
  rintro l s hl ⟨z3, rfl, f3⟩ B3 hB3
  simp only
  unfold wb_X11_hexagonsAreSound_16
  rw [i_3, i_lt (by omega) (by omega)]
  refine ⟨fun _ => ?_, fun q3 => ?_⟩
  · unfold wc_X11_hexagonsAreSound_67
    intro v e
    rw [i_1, i_add] at e
    subst e
    exact hB2 (by omega) _ ⟨z3, rfl, f3⟩
  refine sq_countHex (by omega) (by omega) (by omega) (by omega) (by omega) (by omega) (fun z4 f4 b4 n4 => ⟨rfl, ?_⟩)
  refine sq_putHeapsk (by omega) (by omega) (by omega) (fun z5 f5 b5 n5 => ⟨rfl, ?_⟩)
  refine sq_isLike (bw_f f5 (by decide) (by decide) b4) (by rw [fr_fi f5 (by decide)]; exact n4) b5 n5 ⟨_, rfl, fun _ v e => ?_, fun u => absurd u (by decide +kernel)⟩
  rw [i_1, i_add] at e
  subst e
  exact hB3 (by omega) _ ⟨z5, rfl, fr_t f3 (fr_t (fr_m (by decide) f4) (fr_m (by decide) f5))⟩
end SN2
