/-! ===== the class's table goes through a cell ===== -/
noncomputable def trB (w h : Nat) (S : Nat → Bool) (x y s : Nat) : List Nat := tr (ho w h S (nI x) (nI y)) (ho w h S (nI x + 1) (nI y)) (ho w h S (nI x) (nI y + 1)) x s
noncomputable def cloB (w h : Nat) (S : Nat → Bool) (x y s : Nat) : Nat := if clo (ho w h S (nI x) (nI y)) (lstC S (8 * y + x)) x s = true then 1 else 0
section SLT
variable {w h : Nat} {r : Bool} {S : Nat → Bool} {z : tq_S} {Q : tq_O → tq_S → Prop}
theorem trB_l (x y s : Nat) : (trB w h S x y s).length ≤ 2 := Nat.le_trans (tr_len _ _ _ _ _) (by split <;> omega)
theorem sq_slots {N x y cl : Nat} {K V K0 V0 : Nat → Nat} {B21 B34 : Int32 → tq_S → Prop} (hN : N = 1024) (hw8 : w ≤ 8) (hh8 : h ≤ 8) (hj : jc w h r S z) (hx : x < 8) (hy : y < 8) (hA : HT K V (tq_al z 44)) (h8 : x = 0 → ∀ j, j < 1024 → V j ≠ 0 → bal 8 (K j)) (hT : 4 * tot N V + 4 < 2 ^ 44) (h0 : HT K0 V0 (tq_al z 45)) (t0 : tot N V0 = 0) (w0 : ∀ t, wy N K0 V0 t = 0) (hcl : tq_fl z 2692 = lN cl) (kk : ∀ K' V' z', fr [(3, 45), (1, 2692)] z z' → HT K' V' (tq_al z' 45) → tot N V' = fb_sm (fun j => V j * (trB w h S x y (ky x K j)).length) N → (∀ t, wy N K' V' t = fb_sm (fun j => V j * (trB w h S x y (ky x K j)).count t) N) → tq_fl z' 2692 = lN (cl + fb_sm (fun j => V j * cloB w h S x y (ky x K j)) N) → B34 (nI (x + 1)) z') : wc_X10_countLoops_71 B21 B34 Q (nI y) (nI x) 0 z := by
  unfold wc_X10_countLoops_71
  refine lp_inv (fun i st => ∃ K1 V1 z1, st = (nI i, z1) ∧ fr [(3, 45), (1, 2692)] z z1 ∧ HT K1 V1 (tq_al z1 45) ∧ tot N V1 = fb_sm (fun j => V j * (trB w h S x y (ky x K j)).length) i ∧ (∀ t, wy N K1 V1 t = fb_sm (fun j => V j * (trB w h S x y (ky x K j)).count t) i) ∧ tq_fl z1 2692 = lN (cl + fb_sm (fun j => V j * cloB w h S x y (ky x K j)) i)) N ?_ ⟨K0, V0, z, rfl, fr_r, h0, t0, w0, hcl⟩
  rintro i st hi ⟨K1, V1, z1, rfl, f1, t1, t2, t3, t4⟩ B hB
  simp only
  unfold wb_X10_countLoops_71
  rw [i_1024, i_le (by omega) (by omega)]
  refine ⟨fun q => ?_, fun q => ?_⟩
  · have : i = N := by omega
    subst this
    unfold wc_X10_countLoops_139
    intro v e
    rw [i_1, i_add] at e
    subst e
    exact kk K1 V1 z1 f1 t1 t2 t3 t4
  · have iN : i < N := by omega
    have i1 : i < 1024 := by omega
    have a44 : tq_al z1 44 = tq_al z 44 := fr_al f1 (by decide)
    have lim : fb_sm (fun j => V j * (trB w h S x y (ky x K j)).length) i ≤ 2 * tot N V := by
      have e1 : fb_sm (fun j => V j * (trB w h S x y (ky x K j)).length) i ≤ fb_sm (fun j => V j * (trB w h S x y (ky x K j)).length) N := by
        obtain ⟨d, hd⟩ : ∃ d, N = i + d := ⟨N - i, by omega⟩
        rw [hd]; exact fb_sm_mono _ _ _
      have e2 : fb_sm (fun j => V j * (trB w h S x y (ky x K j)).length) N ≤ fb_sm (fun j => V j + V j) N := fb_sm_le (fun j _ => by
        have := Nat.mul_le_mul_left (V j) (trB_l (w := w) (h := h) (S := S) x y (ky x K j))
        omega)
      rw [fb_sm_add] at e2
      unfold tot
      omega
    rw [i_cl (by omega), a44, hA.1 i i1]
    have nx : ∀ K2 V2 z2, fr [(3, 45), (1, 2692)] z z2 → HT K2 V2 (tq_al z2 45) → tot N V2 = fb_sm (fun j => V j * (trB w h S x y (ky x K j)).length) (i + 1) → (∀ t, wy N K2 V2 t = fb_sm (fun j => V j * (trB w h S x y (ky x K j)).count t) (i + 1)) → tq_fl z2 2692 = lN (cl + fb_sm (fun j => V j * cloB w h S x y (ky x K j)) (i + 1)) → wc_X10_countLoops_133 B21 B34 (fun b3 z => B (b3, z)) Q (nI y) (nI x) (nI i) z2 := by
      intro K2 V2 z2 f2 u1 u2 u3 u4
      unfold wc_X10_countLoops_133
      intro v e
      rw [i_1, i_add] at e
      subst e
      exact hB iN _ ⟨K2, V2, z2, rfl, f2, u1, u2, u3, u4⟩
    refine ⟨i_in i1 (by omega), fun q0 => ?_, fun q0 => ⟨i_in i1 (by omega), fun v1 e1 => ?_⟩⟩
    · have v0 : V i = 0 := by
        refine Classical.byContradiction fun e => ?_
        rw [if_neg e] at q0
        have b := tot_pt (V := V) iN
        have kp : K i < 262144 := bal_lt (hA.2.1 i i1 e)
        rw [show (0 : Int64) = lN 0 from rfl, fb_lN_inj (by omega) (by omega)] at q0
        omega
      refine nx K1 V1 z1 f1 t1 ?_ (fun t => ?_) ?_
      · rw [t2, fb_sm_succ, v0, Nat.zero_mul, Nat.add_zero]
      · rw [t3, fb_sm_succ, v0, Nat.zero_mul, Nat.add_zero]
      · rw [t4, fb_sm_succ, v0, Nat.zero_mul, Nat.add_zero]
    · have v0 : V i ≠ 0 := fun e => q0 (by rw [if_pos e])
      rw [if_neg v0, l_low] at e1
      have b := tot_pt (V := V) iN
      have kp : K i < 262144 := bal_lt (hA.2.1 i i1 v0)
      rw [show (V i * 262144 + K i) % 262144 = K i by omega] at e1
      subst e1
      obtain ⟨y0, y1⟩ := ky_key hA h8 i1 v0
      have go : wc_X10_countLoops_121 B21 B34 (fun b3 z => B (b3, z)) Q (nI y) (nI x) (nI i) (nI (ky x K i)) (nI y) (nI x) z1 := by
        unfold wc_X10_countLoops_121
        rw [i_cl (by omega), a44, hA.1 i i1, if_neg v0, l_shr18 (by omega), show (V i * 262144 + K i) / 262144 = V i by omega]
        refine ⟨i_in i1 (by omega), ?_⟩
        refine sq_loopPass hN hw8 hh8 (jc_f f1 (by decide) (by decide) (by decide) (by decide) hj) hx hy (ky_b hA h8 i1 v0) (by omega) (by omega) t1 (fun K2 V2 z2 f2 u1 u2 u3 u4 => ⟨rfl, ?_⟩)
        refine nx K2 V2 z2 (fr_t f1 f2) u1 ?_ (fun t => ?_) ?_
        · rw [u2, t2, fb_sm_succ]; rfl
        · rw [u3, t3, fb_sm_succ]; rfl
        · rw [u4, t4, fb_sm_succ]
          unfold cloB
          by_cases c : clo (ho w h S (nI x) (nI y)) (lstC S (8 * y + x)) x (ky x K i) = true
          · rw [if_pos c, if_pos c, l_add, Nat.mul_one, Nat.add_assoc]
          · rw [if_neg c, if_neg c, Nat.mul_zero, Nat.add_zero]
      refine ⟨fun qx => ?_, fun qx => ?_⟩
      · have hx0 : x ≠ 0 := fun e => qx (by rw [e]; rfl)
        rw [y1 hx0]; exact go
      · have hx0 : x = 0 := by
          rw [show (0 : Int32) = nI 0 from rfl, i_eq (by omega) (by omega)] at qx
          exact qx
        rw [y0 hx0]; exact go
end SLT
