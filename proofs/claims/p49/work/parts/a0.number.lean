section NUM
variable {w h : Nat} {r : Bool} {S : Nat → Bool} {z : tq_S} {Q : tq_O → tq_S → Prop}
/-- the class's cells by their numbers -/
def cnm (S : Nat → Bool) (z : tq_S) : Prop := tq_fi z 1804 = nI (fb_ct S 64) ∧ (∀ k, k < fb_ct S 64 → tq_ai z 31 k = nI (kth S k)) ∧ ∀ c, c < 64 → tq_ai z 32 c = if S c = true then nI (fb_ct S c) else -1
theorem sq_numberCells (hj : jc w h r S z) (h24 : fb_ct S 64 ≤ 24) (kk : ∀ z', fr [(0, 1804), (2, 31), (2, 32)] z z' → cnm S z' → Q (.inl none) z') : wm_X4_numberCells z Q := by
  unfold wm_X4_numberCells
  intro z1 e1
  have f1 : fr [(0, 1804), (2, 31), (2, 32)] z z1 := by rw [e1]; exact fr_sfi (by decide) fr_r
  have g1 : tq_fi z1 1804 = nI 0 := by rw [e1]; rfl
  refine fw_J7_fill_53178_r3 ⟨rfl, ?_⟩
  obtain ⟨z2, e2⟩ : ∃ z2, z2 = fl_i z1 32 0 64 (-1) := ⟨_, rfl⟩
  rw [← e2]
  have f2 : fr [(0, 1804), (2, 31), (2, 32)] z z2 := by rw [e2]; unfold fl_i; exact fr_sai (by decide) f1
  have a2 : ∀ c, c < 64 → tq_ai z2 32 c = -1 := fun c hc => by
    rw [e2]
    unfold fl_i
    rw [rw_aie, if_pos (by omega)]
  have g2 : tq_fi z2 1804 = nI 0 := by rw [e2]; exact g1
  unfold wc_X4_numberCells_15
  refine lp_inv (fun i st => ∃ z', st = (nI i, z') ∧ fr [(0, 1804), (2, 31), (2, 32)] z z' ∧ tq_fi z' 1804 = nI (fb_ct S i) ∧ (∀ k, k < fb_ct S i → tq_ai z' 31 k = nI (kth S k)) ∧ ∀ c, c < 64 → tq_ai z' 32 c = if S c = true ∧ c < i then nI (fb_ct S c) else -1) 64 ?_ ⟨z2, rfl, f2, g2, fun k hk => absurd hk (Nat.not_lt_zero _), fun c hc => by rw [a2 c hc, if_neg (fun u => absurd u.2 (Nat.not_lt_zero _))]⟩
  rintro i st hi ⟨z3, rfl, f3, g3, b3, c3⟩ B hB
  simp only
  unfold wb_X4_numberCells_15
  rw [i_64, i_le (by omega) (by omega)]
  refine ⟨fun q => ?_, fun q => ?_⟩
  · have : i = 64 := by omega
    subst this
    refine kk z3 f3 ⟨g3, b3, fun c hc => ?_⟩
    rw [c3 c hc]
    by_cases u : S c = true
    · rw [if_pos ⟨u, hc⟩, if_pos u]
    · rw [if_neg (fun e => u e.1), if_neg u]
  have i64 : i < 64 := by omega
  have j3 := jc_f f3 (by decide) (by decide) (by decide) (by decide) hj
  have nx : ∀ z4, fr [(0, 1804), (2, 31), (2, 32)] z z4 → tq_fi z4 1804 = nI (fb_ct S (i + 1)) → (∀ k, k < fb_ct S (i + 1) → tq_ai z4 31 k = nI (kth S k)) → (∀ c, c < 64 → tq_ai z4 32 c = if S c = true ∧ c < i + 1 then nI (fb_ct S c) else -1) → wc_X4_numberCells_76 (fun b1 z => B (b1, z)) Q (nI i) z4 := by
    intro z4 f4 g4 b4 c4
    unfold wc_X4_numberCells_76
    intro v e
    rw [i_1, i_add] at e
    subst e
    exact hB i64 _ ⟨z4, rfl, f4, g4, b4, c4⟩
  rw [ct_t1 i64, j3.2.2.2]
  refine ⟨fun e => nx z3 f3 ?_ ?_ ?_, fun e => ?_⟩
  · rw [g3, fb_ct_succ, e]; rfl
  · rw [fb_ct_succ, e]; exact b3
  · intro c hc
    rw [c3 c hc]
    by_cases u : S c = true
    · have ne : c ≠ i := fun q2 => by rw [q2, e] at u; cases u
      by_cases l : c < i
      · rw [if_pos ⟨u, l⟩, if_pos ⟨u, by omega⟩]
      · rw [if_neg (fun q2 => l q2.2), if_neg (fun q2 => by omega)]
    · rw [if_neg (fun q2 => u q2.1), if_neg (fun q2 => u q2.1)]
  · have e : S i = true := by simpa using e
    have lt := ct_in i64 e
    rw [g3, show (24 : Int32) = nI 24 from rfl, i_le (by omega) (by omega)]
    refine ⟨fun q2 => absurd q2 (by omega), fun _ => ⟨i_in (by omega) (by omega), fun z4 e4 => ⟨i_in (by omega) (by omega), fun z5 e5 z6 e6 => ?_⟩⟩⟩
    rw [i_cl (by omega)] at e4
    rw [i_cl (by omega)] at e5
    have s1 : fb_ct S (i + 1) = fb_ct S i + 1 := by rw [fb_ct_succ, e]; rfl
    have g4 : tq_fi z4 1804 = nI (fb_ct S i) := by rw [e4]; exact g3
    have g5 : tq_fi z5 1804 = nI (fb_ct S i) := by rw [e5]; exact g4
    have a31 : ∀ k, tq_ai z6 31 k = if k = fb_ct S i then nI i else tq_ai z3 31 k := fun k => by
      rw [e6, rw_ai_fi, e5, rw_ain (by decide), e4, rw_aie, rw_upd]
    have a32 : ∀ k, tq_ai z6 32 k = if k = i then nI (fb_ct S i) else tq_ai z3 32 k := fun k => by
      rw [e6, rw_ai_fi, e5, rw_aie, rw_upd, g4, e4, rw_ain (by decide)]
    refine nx z6 ?_ ?_ (fun k hk => ?_) (fun c hc => ?_)
    · rw [e6]
      refine fr_sfi (by decide) ?_
      rw [e5]
      refine fr_sai (by decide) ?_
      rw [e4]; exact fr_sai (by decide) f3
    · rw [e6, s1]
      show tq_fi z5 1804 + 1 = _
      rw [g5, i_1, i_add]
    · rw [a31]
      by_cases u : k = fb_ct S i
      · rw [if_pos u, u, kth_of i64 e]
      · rw [if_neg u]; exact b3 k (by omega)
    · rw [a32]
      by_cases u : c = i
      · rw [if_pos u, u, if_pos ⟨e, by omega⟩]
      · rw [if_neg u, c3 c hc]
        by_cases l : S c = true ∧ c < i
        · rw [if_pos l, if_pos ⟨l.1, by omega⟩]
        · rw [if_neg l, if_neg (fun q2 => l ⟨q2.1, by omega⟩)]
theorem cnm_f {F : List (Nat × Nat)} {z' : tq_S} (f : fr F z z') (h1 : (0, 1804) ∉ F) (h2 : (2, 31) ∉ F) (h3 : (2, 32) ∉ F) (h : cnm S z) : cnm S z' := by
  obtain ⟨a, b, c⟩ := h
  refine ⟨by rw [fr_fi f h1]; exact a, fun k hk => by rw [fr_ai f h2]; exact b k hk, fun c' hc => by rw [fr_ai f h3]; exact c c' hc⟩
theorem kth_in {p : Nat → Bool} {k : Nat} (hk : k < fb_ct p 64) : kth p k < 64 ∧ p (kth p k) = true := ⟨(kth_ok hk).1, (kth_ok hk).2.1⟩
/-- the number of the cell at x and y, -1 if there is none -/
def cix (S : Nat → Bool) (x y : Int) : Int := if 0 ≤ x ∧ x < 8 ∧ 0 ≤ y ∧ y < 8 ∧ S (8 * y.toNat + x.toNat) = true then ((fb_ct S (8 * y.toNat + x.toNat) : Nat) : Int) else -1
end NUM
