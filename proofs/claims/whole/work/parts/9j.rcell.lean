/-! ===== loops: the reference's way through a cell ===== -/
section RLP
variable {w h : Nat} {r : Bool} {S : Nat → Bool} {z : tq_S} {Q : tq_O → tq_S → Prop}
/-- the last cell that is there, as the reference finds it -/
def lasR (S : Nat → Bool) (a : Int32) : Prop := (∃ k, k < 64 ∧ a = nI k ∧ S k = true ∧ ∀ i, k < i → i < 64 → S i = false) ∨ ∀ i, i < 64 → S i = false
theorem lasR_c {a : Int32} {x y s : Nat} (hw8 : w ≤ 8) (hh8 : h ≤ 8) (hx : x < 8) (hy : y < 8) (hl : lasR S a) : clo (ho w h S (nI x) (nI y)) (decide ((8 : Int32) * nI y + nI x = a)) x s = clo (ho w h S (nI x) (nI y)) (lstC S (8 * y + x)) x s := by
  by_cases q : ho w h S (nI x) (nI y) = true
  · have hS := ho_S hw8 hh8 q (by omega) (by omega)
    congr 1
    unfold lstC
    rcases hl with ⟨k, k64, ka, kS, kN⟩ | hN
    · subst ka
      rw [i_8, pk_mul, i_add]
      refine (@decide_eq_decide _ _ _ (Classical.propDecidable _)).mpr ?_
      rw [i_eq (by omega) (by omega)]
      refine ⟨fun e j hj hk => kN j (by omega) hj, fun e => ?_⟩
      rcases Nat.lt_trichotomy (8 * y + x) k with q1 | q1 | q1
      · rw [e k k64 q1] at kS; cases kS
      · exact q1
      · rw [kN _ q1 (by omega)] at hS; cases hS
    · rw [hN _ (by omega)] at hS; cases hS
  · have : ho w h S (nI x) (nI y) = false := by simpa using q
    rw [this]; rfl
theorem sq_cell162 {M x y cl : Nat} {a : Int32} {V : Nat → Nat} {B108 B162 : Int32 → tq_S → Prop} (hd : jd w h r S) (hj : jr w h r S z) (hM : M = gw w) (hM2 : M ≤ 262144) (hx : x < w) (hy : y < h) (hl : lasR S a) (hV : ∀ s, s < M → V s ≠ 0 → bal (w + 1) s) (hb : ∀ s, s < M → V s ≤ 2 ^ 36) (h85 : ∀ s, s < M → tq_al z 85 s = lN (V s)) (hc : tq_fl z 3319 = lN cl) (kk : ∀ z', fr [(3, 85), (3, 86), (1, 3319)] z z' → (∀ t, t < M → tq_al z' 85 t = lN (fb_sm (fun s => V s * (trB w h S x y s).count t) M)) → tq_fl z' 3319 = lN (cl + fb_sm (fun s => V s * cloB w h S x y s) M) → B162 (nI (x + 1)) z') : wb_X12_loops_162 B108 B162 Q a (nI M) (nI y) (nI x) z := by
  have hw1 := hd.1
  have hw8 := hd.2.1
  have hh1 := hd.2.2.1
  have hh8 := hd.2.2.2.1
  unfold wb_X12_loops_162
  rw [hj.1.1, i_le (by omega) (by omega)]
  refine ⟨fun q => absurd q (by omega), fun _ => ?_⟩
  have copy : ∀ z2, fr [(3, 86), (1, 3319)] z z2 → (∀ t, t < M → tq_al z2 86 t = lN (fb_sm (fun s => V s * (trB w h S x y s).count t) M)) → tq_fl z2 3319 = lN (cl + fb_sm (fun s => V s * cloB w h S x y s) M) → wc_X12_loops_253 B108 B162 Q a (nI M) (nI y) (nI x) z2 := by
    intro z2 f2 a2 c2
    unfold wc_X12_loops_253 wc_X12_loops_256
    refine lp_inv (fun j st => ∃ z3, st = (nI j, z3) ∧ fr [(3, 85)] z2 z3 ∧ ∀ t, t < j → tq_al z3 85 t = tq_al z2 86 t) M ?_ ⟨z2, rfl, fr_r, fun t ht => absurd ht (Nat.not_lt_zero _)⟩
    rintro j st hjM ⟨z3, rfl, f3, c3⟩ B hB
    simp only
    unfold wb_X12_loops_256
    rw [i_le (by omega) (by omega)]
    refine ⟨fun q => ?_, fun q => ⟨i_in (by omega) (by omega), i_in (by omega) (by omega), fun z4 e4 v e => ?_⟩⟩
    · have : j = M := by omega
      subst this
      unfold wc_X12_loops_282
      intro v e
      rw [i_1, i_add] at e
      subst e
      refine kk z3 (fr_t (fr_m (by decide) f2) (fr_m (by decide) f3)) (fun t ht => by rw [c3 t ht, a2 t ht]) ?_
      rw [fr_fl f3 (by decide)]; exact c2
    · rw [i_1, i_add] at e
      subst e
      refine hB (by omega) _ ⟨z4, rfl, by rw [e4]; exact fr_sal (by decide) f3, fun t ht => ?_⟩
      rw [i_cl (by omega)] at e4
      have e86 : tq_al z3 86 = tq_al z2 86 := fr_al f3 (by decide)
      have a4 : tq_al z4 85 t = if t = j then tq_al z3 86 j else tq_al z3 85 t := by rw [e4, rw_ale]; rfl
      rw [a4]
      by_cases q2 : t = j
      · rw [if_pos q2, q2, e86]
      · rw [if_neg q2]; exact c3 t (by omega)
  unfold wc_X12_loops_174
  refine lp_inv (fun j st => ∃ z1, st = (nI j, z1) ∧ fr [(3, 86)] z z1 ∧ ∀ t, t < j → tq_al z1 86 t = 0) M ?_ ⟨z, rfl, fr_r, fun t ht => absurd ht (Nat.not_lt_zero _)⟩
  rintro j st hjM ⟨z1, rfl, f1, c1⟩ B hB
  simp only
  unfold wb_X12_loops_174
  rw [i_le (by omega) (by omega)]
  refine ⟨fun q => ?_, fun q => ⟨i_in (by omega) (by omega), fun z2 e2 v e => ?_⟩⟩
  rotate_left
  · rw [i_1, i_add] at e
    subst e
    rw [i_cl (by omega)] at e2
    refine hB (by omega) _ ⟨z2, rfl, by rw [e2]; exact fr_sal (by decide) f1, fun t ht => ?_⟩
    have a2 : tq_al z2 86 t = if t = j then 0 else tq_al z1 86 t := by rw [e2, rw_ale]; rfl
    rw [a2]
    by_cases q2 : t = j
    · rw [if_pos q2]
    · rw [if_neg q2]; exact c1 t (by omega)
  have : j = M := by omega
  subst this
  unfold wc_X12_loops_194 wc_X12_loops_197
  refine lp_inv (fun i st => ∃ z2, st = (nI i, z2) ∧ fr [(3, 86), (1, 3319)] z z2 ∧ (∀ t, t < j → tq_al z2 86 t = lN (fb_sm (fun s => V s * (trB w h S x y s).count t) i)) ∧ tq_fl z2 3319 = lN (cl + fb_sm (fun s => V s * cloB w h S x y s) i)) j ?_ ⟨z1, rfl, fr_m (by decide) f1, fun t ht => c1 t ht, by rw [fr_fl f1 (by decide)]; exact hc⟩
  rintro i st hi ⟨z2, rfl, f2, a2, c2⟩ B2 hB2
  simp only
  unfold wb_X12_loops_197
  rw [i_le (by omega) (by omega)]
  refine ⟨fun q => ?_, fun q => ⟨i_in (by omega) (by omega), ?_⟩⟩
  · have : i = j := by omega
    subst this
    exact copy z2 f2 a2 c2
  have iM : i < j := by omega
  have e85 : tq_al z2 85 = tq_al z 85 := fr_al f2 (by decide)
  have vb := hb i iM
  rw [i_cl (by omega), e85, h85 i iM, l_0, pk_lLE (by omega) (by omega)]
  have nx : ∀ z3, fr [(3, 86), (1, 3319)] z z3 → (∀ t, t < j → tq_al z3 86 t = lN (fb_sm (fun s => V s * (trB w h S x y s).count t) i + V i * (trB w h S x y i).count t)) → tq_fl z3 3319 = lN (cl + fb_sm (fun s => V s * cloB w h S x y s) i + V i * cloB w h S x y i) → wc_X12_loops_247 B108 B162 (fun b5 z => B2 (b5, z)) Q a (nI j) (nI y) (nI x) (nI i) z3 := by
    intro z3 f3 a3 c3
    unfold wc_X12_loops_247
    intro v e
    rw [i_1, i_add] at e
    subst e
    exact hB2 iM _ ⟨z3, rfl, f3, a3, by rw [c3, Nat.add_assoc]; rfl⟩
  refine ⟨fun q2 => ?_, fun q2 => ?_⟩
  · have v0 : V i = 0 := by omega
    exact nx z2 f2 (fun t ht => by rw [v0, Nat.zero_mul, Nat.add_zero]; exact a2 t ht) (by rw [v0, Nat.zero_mul, Nat.add_zero]; exact c2)
  have v0 : V i ≠ 0 := by omega
  have bi1 := hV i iM v0
  have j2 := jr_f f2 (by decide) (by decide) (by decide) (by decide) hj
  have go : ∀ b : Int32, b = bi (decide ((8 : Int32) * nI y + nI x = a)) → wc_X12_loops_237 B108 B162 (fun b5 z => B2 (b5, z)) Q a (nI j) (nI y) (nI x) (nI i) b (nI y) (nI x) (nI i) z2 := by
    intro b hbb
    subst hbb
    unfold wc_X12_loops_237
    rw [i_cl (by omega), e85, h85 i iM]
    refine ⟨i_in (by omega) (by omega), ?_⟩
    refine sq_loopOn (n := w + 1) (I := fun L z3 => fr [(3, 86)] z2 z3 ∧ ∀ t, t < j → tq_al z3 86 t = lN (fb_sm (fun s => V s * (trB w h S x y s).count t) i + V i * L.count t)) hw1 hw8 hh1 hh8 j2 (by omega) (by omega) bi1 ?_ ⟨fr_r, fun t ht => by rw [List.count_nil, Nat.mul_zero, Nat.add_zero]; exact a2 t ht⟩ ?_ ?_
    · rintro L t z3 Q' bt ⟨f3, a3⟩ k3
      have tM : t < j := by rw [hM]; exact bal_gw bt
      unfold wm_X12_add
      refine ⟨i_in (by omega) (by omega), i_in (by omega) (by omega), fun z4 e4 => k3 z4 ⟨by rw [e4]; exact fr_sal (by decide) f3, fun t' ht' => ?_⟩⟩
      rw [i_cl (by omega)] at e4
      have a4 : tq_al z4 86 t' = if t' = t then tq_al z3 86 t + lN (V i) else tq_al z3 86 t' := by rw [e4, rw_ale]; rfl
      rw [a4, List.count_append]
      by_cases q3 : t' = t
      · rw [if_pos q3, q3, a3 t tM, l_add, List.count_singleton_self, Nat.mul_add, Nat.mul_one, Nat.add_assoc]
      · rw [if_neg q3, a3 t' ht', List.count_eq_zero.mpr (fun e => q3 (List.mem_singleton.mp e)), Nat.add_zero]
    · intro e
      rw [lasR_c hw8 hh8 (by omega) (by omega) hl] at e
      have en := clo_nil (rr := ho w h S (nI x + 1) (nI y)) (d := ho w h S (nI x) (nI y + 1)) e
      refine ⟨rfl, nx _ (fr_sfl (by decide) f2) (fun t ht => ?_) ?_⟩
      · unfold trB
        rw [en, List.count_nil, Nat.mul_zero, Nat.add_zero]
        exact a2 t ht
      · rw [rw_fle, c2, l_add]
        unfold cloB
        rw [if_pos e, Nat.mul_one]
    · rintro e z3 ⟨f3, a3⟩
      rw [lasR_c hw8 hh8 (by omega) (by omega) hl] at e
      refine ⟨rfl, nx z3 (fr_t f2 (fr_m (by decide) f3)) a3 ?_⟩
      rw [fr_fl f3 (by decide), c2]
      unfold cloB
      rw [if_neg (by rw [e]; decide), Nat.mul_zero, Nat.add_zero]
  refine ⟨fun q3 => go _ (by rw [decide_eq_false q3]; rfl), fun q3 => go _ (by rw [decide_eq_true q3]; rfl)⟩
end RLP
