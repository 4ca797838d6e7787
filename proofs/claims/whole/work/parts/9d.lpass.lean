/-! ===== one row of ends through a cell, in the class's table ===== -/
section LPS
variable {w h : Nat} {r : Bool} {S : Nat → Bool} {z : tq_S} {Q : tq_O → tq_S → Prop}
theorem clo_nil {c l rr d : Bool} {x s : Nat} (e : clo c l x s = true) : tr c rr d x s = [] := by
  unfold clo at e
  simp only [Bool.and_eq_true, decide_eq_true_eq] at e
  obtain ⟨⟨⟨⟨hc, _⟩, h1⟩, h2⟩, _⟩ := e
  exact (tr_cases (c := c) (rr := rr) (d := d) (Or.inr (Or.inl h1)) (Or.inr (Or.inr h2))).2.2.2.2.2.2 hc h1 h2
/-- the ways that a call of add makes more -/
theorem sq_loopPass {N : Nat} {K V : Nat → Nat} {x y s m : Nat} (hN : N = 1024) (hw8 : w ≤ 8) (hh8 : h ≤ 8) (hj : jc w h r S z) (hx : x < 8) (hy : y < 8) (hb : bal 9 s) (hm : 1 ≤ m) (hT : tot N V + 2 * m < 2 ^ 44) (hh : HT K V (tq_al z 45)) (kk : ∀ K' V' z', fr [(3, 45), (1, 2692)] z z' → HT K' V' (tq_al z' 45) → tot N V' = tot N V + m * (tr (ho w h S (nI x) (nI y)) (ho w h S (nI x + 1) (nI y)) (ho w h S (nI x) (nI y + 1)) x s).length → (∀ t, wy N K' V' t = wy N K V t + m * (tr (ho w h S (nI x) (nI y)) (ho w h S (nI x + 1) (nI y)) (ho w h S (nI x) (nI y + 1)) x s).count t) → tq_fl z' 2692 = (if clo (ho w h S (nI x) (nI y)) (lstC S (8 * y + x)) x s = true then tq_fl z 2692 + lN m else tq_fl z 2692) → Q (.inl none) z') : wm_X10_passCell (nI x) (nI y) (nI s) (lN m) z Q := by
  refine sq_loopCell (I := fun L z1 => fr [(3, 45)] z z1 ∧ ∃ K' V', HT K' V' (tq_al z1 45) ∧ tot N V' = tot N V + m * L.length ∧ ∀ t, wy N K' V' t = wy N K V t + m * L.count t) hw8 hh8 hj hx hy hb ?_ ⟨fr_r, K, V, hh, by rw [List.length_nil, Nat.mul_zero, Nat.add_zero], fun t => by rw [List.count_nil, Nat.mul_zero, Nat.add_zero]⟩ ?_ ?_
  · rintro L t z1 Q' bt hl ⟨f1, K1, V1, t1, t2, t3⟩ k1
    have l1 : m * L.length ≤ m * 1 := Nat.mul_le_mul_left _ (by omega)
    refine sq_loopAdd hN t1 bt hm (by omega) (fun K2 V2 z2 f2 u1 u2 u3 => k1 z2 ⟨fr_t f1 f2, K2, V2, u1, ?_, fun t' => ?_⟩)
    · rw [u2, t2, List.length_append, List.length_singleton, Nat.mul_add, Nat.mul_one, Nat.add_assoc]
    · rw [u3, t3, List.count_append, Nat.mul_add, ← Nat.add_assoc]
      by_cases q : t' = t
      · rw [if_pos q, q, List.count_singleton_self, Nat.mul_one]
      · rw [if_neg q, List.count_eq_zero.mpr (fun e => q (List.mem_singleton.mp e)), Nat.mul_zero]
  · intro e
    have en := clo_nil (rr := ho w h S (nI x + 1) (nI y)) (d := ho w h S (nI x) (nI y + 1)) e
    refine kk K V _ (fr_sfl (by decide) fr_r) hh (by rw [en, List.length_nil, Nat.mul_zero, Nat.add_zero]) (fun t => by rw [en, List.count_nil, Nat.mul_zero, Nat.add_zero]) ?_
    rw [if_pos e, rw_fle]
  · rintro e z' ⟨f1, K1, V1, t1, t2, t3⟩
    refine kk K1 V1 z' (fr_m (by decide) f1) t1 t2 t3 ?_
    rw [if_neg (by rw [e]; decide)]
    exact fr_fl f1 (by decide)
end LPS
