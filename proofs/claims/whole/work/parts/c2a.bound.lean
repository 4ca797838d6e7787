/-! ===== the number of exact covers: a bound by the open cells ===== -/
section CNB
variable {n P K : Nat} {f : Nat → plc} {Z U : Nat → Nat}
theorem tro_pop {c : Nat} (hc : c < 2 ^ n) (hn : n ≤ 24) (h : n ≤ tro c) : pop c = n := by
  obtain ⟨o, h1, h2, h3, -⟩ := tro_ex c
  rw [pop_n hc hn]
  exact fb_ct_all.mpr (fun j hj => h3 j (by omega))
theorem cmpl {a c : Nat} (hd : c &&& a = 0) (ha : a < 2 ^ n) (hc : c < 2 ^ n) (hn : n ≤ 24) (h : pop c + pop a = n) : ∀ j, a.testBit j = (decide (j < n) && !c.testBit j) := by
  have ho : c ||| a < 2 ^ n := Nat.or_lt_two_pow hc ha
  have e : fb_ct (fun i => (c ||| a).testBit i) n = n := by rw [← pop_n ho hn, pop_or hd, h]
  have all := fb_ct_all.mp e
  intro j
  by_cases q : j < n
  · have u := all j q
    rw [Nat.testBit_or] at u
    have v : (c &&& a).testBit j = false := by rw [hd, Nat.zero_testBit]
    rw [Nat.testBit_and] at v
    rw [decide_eq_true q]
    cases e1 : a.testBit j <;> cases e2 : c.testBit j <;> rw [e1, e2] at u v <;> first | rfl | exact absurd u (by decide) | exact absurd v (by decide)
  · rw [decide_eq_false q, Bool.false_and]
    exact Nat.testBit_lt_two_pow (Nat.lt_of_lt_of_le ha (Nat.pow_le_pow_right (by decide) (by omega)))
theorem cnx_le (hn : n ≤ 24) (hK : ∀ p, p < P → (f p).2.1 < K) (hm : ∀ p, p < P → (f p).2.2.1 < 2 ^ n ∧ pop (f p).2.2.1 = Z (f p).2.1) (hu : ∀ p p', p < P → p' < P → (f p).2.1 = (f p').2.1 → (f p).2.2.1 = (f p').2.2.1 → p = p') (h0 : 1 ≤ U 0) (hU : ∀ c m, 0 < m → m ≤ n → fb_sm (fun k => if Z k < m then U (m - Z k) * fb_ct (fun p => decide ((f p).1 = c) && decide ((f p).2.1 = k)) P else if Z k = m then 1 else 0) K ≤ U m) : ∀ (t c : Nat) (l : Nat → Nat), c < 2 ^ n → cnx n P f t c l ≤ U (n - pop c) := by
  intro t
  induction t with
  | zero =>
    intro c l hc
    by_cases u : n ≤ tro c
    · rw [cnx_1 u, tro_pop hc hn u, Nat.sub_self]; exact h0
    · show (if n ≤ tro c then 1 else 0) ≤ _
      rw [if_neg u]; exact Nat.zero_le _
  | succ t ih =>
    intro c l hc
    by_cases u : n ≤ tro c
    · rw [cnx_1 u, tro_pop hc hn u, Nat.sub_self]; exact h0
    · have pn : pop c < n := by
        refine Nat.lt_of_not_le (fun q => u ?_)
        rw [pop_full hc hn q]; exact Nat.le_refl _
      generalize em : n - pop c = m
      rw [cnx_s, if_neg u]
      have e1 : fb_sm (tm n P f t c l) P = fb_sm (fun p => fb_sm (fun k => if (f p).2.1 = k then tm n P f t c l p else 0) K) P := fb_sm_cong (fun p hp => (sm_one (f := fun _ => tm n P f t c l p) (hK p hp)).symm)
      rw [e1, sm_swp2 (fun p k => if (f p).2.1 = k then tm n P f t c l p else 0) K P]
      refine Nat.le_trans (fb_sm_le (fun k hk => ?_)) (hU (tro c) m (by omega) (by omega))
      have per : ∀ p, p < P → (f p).2.1 = k → tm n P f t c l p = 0 ∨ ((f p).1 = tro c ∧ c &&& (f p).2.2.1 = 0 ∧ pop (c ||| (f p).2.2.1) = pop c + Z k ∧ c ||| (f p).2.2.1 < 2 ^ n ∧ tm n P f t c l p = cnx n P f t (c ||| (f p).2.2.1) (lsub l (f p).2.1 1)) := fun p hp ek => by
        by_cases q : (f p).1 = tro c ∧ c &&& (f p).2.2.1 = 0 ∧ l (f p).2.1 ≠ 0
        · refine Or.inr ⟨q.1, q.2.1, ?_, Nat.or_lt_two_pow hc (hm p hp).1, ?_⟩
          · rw [pop_or q.2.1, (hm p hp).2, ek]
          · unfold tm; rw [if_pos q]
        · refine Or.inl ?_
          unfold tm; rw [if_neg q]
      by_cases z1 : Z k < m
      · rw [if_pos z1, ← sm_ct]
        refine fb_sm_le (fun p hp => ?_)
        by_cases ek : (f p).2.1 = k
        · rw [if_pos ek]
          rcases per p hp ek with q | ⟨q1, q2, q3, q4, q5⟩
          · rw [q]; exact Nat.zero_le _
          · rw [decide_eq_true q1, decide_eq_true ek, if_pos (show (true && true) = true from rfl), q5]
            have := ih (c ||| (f p).2.2.1) (lsub l (f p).2.1 1) q4
            rw [q3, show n - (pop c + Z k) = m - Z k by omega] at this
            exact this
        · rw [if_neg ek]; exact Nat.zero_le _
      · rw [if_neg z1]
        by_cases z2 : Z k = m
        · rw [if_pos z2]
          have ub : fb_sm (fun p => if (f p).2.1 = k then tm n P f t c l p else 0) P ≤ fb_sm (fun p => if (decide ((f p).2.1 = k) && decide (c &&& (f p).2.2.1 = 0)) = true then 1 else 0) P := fb_sm_le (fun p hp => by
            by_cases ek : (f p).2.1 = k
            · rw [if_pos ek]
              rcases per p hp ek with q | ⟨q1, q2, q3, q4, q5⟩
              · rw [q]; exact Nat.zero_le _
              · rw [decide_eq_true q2, decide_eq_true ek, if_pos (show (true && true) = true from rfl), q5]
                have tr : tro (c ||| (f p).2.2.1) = n := pop_full q4 hn (by omega)
                rw [cnx_1 (by omega)]
                exact Nat.le_refl _
            · rw [if_neg ek]; exact Nat.zero_le _)
          refine Nat.le_trans ub ?_
          rw [sm_ct, Nat.one_mul]
          refine Nat.le_trans (cinj (N := 1) (R := fun _ => true) (g := fun _ => 0) (fun p _ _ => ⟨by omega, rfl⟩) (fun p p' hp hp' a b _ => ?_)) (fb_ct_le _ _)
          simp only [Bool.and_eq_true, decide_eq_true_eq] at a b
          refine hu p p' hp hp' (a.1.trans b.1.symm) ?_
          have s1 := cmpl a.2 (hm p hp).1 hc hn (by rw [(hm p hp).2, a.1]; omega)
          have s2 := cmpl b.2 (hm p' hp').1 hc hn (by rw [(hm p' hp').2, b.1]; omega)
          exact Nat.eq_of_testBit_eq (fun j => (s1 j).trans (s2 j).symm)
        · rw [if_neg z2]
          refine Nat.le_trans (fb_sm_le (g := fun _ => 0) (fun p hp => ?_)) (Nat.le_of_eq (fb_sm_0 P))
          by_cases ek : (f p).2.1 = k
          · rw [if_pos ek]
            rcases per p hp ek with q | ⟨q1, q2, q3, q4, q5⟩
            · rw [q]; exact Nat.le_refl _
            · exact absurd (pop_le q4 hn) (by omega)
          · rw [if_neg ek]; exact Nat.le_refl _
end CNB
