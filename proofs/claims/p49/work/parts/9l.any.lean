section ANY
variable {w : Nat} {r : Bool} {S : Nat → Bool} {c o : Nat}
theorem bh_rm0 (h : bh 0 S) : bh 0 (cv_rm S c o) := fun j hj => h j (cv_rm_t.mp hj).1
theorem ct_parts (g : Nat → Nat) {M : Nat} : ∀ N, (∀ m, m < N → g m < M) → fb_sm (fun o => fb_ct (fun m => decide (g m = o)) N) M = N
  | 0, _ => fb_sm_0 M
  | N + 1, h => by
    have e : fb_sm (fun o => fb_ct (fun m => decide (g m = o)) (N + 1)) M = fb_sm (fun o => fb_ct (fun m => decide (g m = o)) N + if g N = o then 1 else 0) M := fb_sm_cong (fun o _ => by
      rw [fb_ct_succ]
      by_cases q : g N = o
      · rw [decide_eq_true q, if_pos rfl, if_pos q]
      · rw [decide_eq_false q, if_neg q]; rfl)
    rw [e, fb_sm_add, ct_parts g N (fun m hm => h m (by omega)), sm_is, if_pos (h N (by omega))]
theorem any_o (bw : w ≤ 8) (hr : r = true → 4 ≤ w) (hb : bh 0 S) (hc : S c = true) (ho : S o = true) (hne : c ≠ o) (hn : nb w r c o = true) : fb_ct (fun m => decide (ur w r 0 S m c = o)) (cv_T w r 0 S) = cv_T w r 0 (cv_rm S c o) := by
  refine Nat.le_antisymm ?_ ?_
  · have := cinj (N := cv_T w r 0 (cv_rm S c o)) (P := fun m => decide (ur w r 0 S m c = o)) (R := fun _ => true) (g := fun m => rk w r 0 (cv_rm S c o) (ur w r 0 S m)) (n := cv_T w r 0 S) (fun m hm hP => ⟨(rk_ok bw hr rfl (bh_rm0 hb) (pc_rm (ur_ok bw hr rfl hb hm).1 hc (of_decide_eq_true hP))).1, rfl⟩) (fun m m' hm hm' hP hP' e => by
      have a := ur_ok bw hr rfl hb hm
      have b := ur_ok bw hr rfl hb hm'
      have hP := of_decide_eq_true hP
      have hP' := of_decide_eq_true hP'
      have ra := (rk_ok bw hr rfl (bh_rm0 (c := c) (o := o) hb) (pc_rm a.1 hc hP)).2
      have rb := (rk_ok bw hr rfl (bh_rm0 (c := c) (o := o) hb) (pc_rm b.1 hc hP')).2
      have e : rk w r 0 (cv_rm S c o) (ur w r 0 S m) = rk w r 0 (cv_rm S c o) (ur w r 0 S m') := e
      have same : ∀ j, S j = true → ur w r 0 S m j = ur w r 0 S m' j := fun j hj => by
        by_cases q1 : j = c
        · rw [q1, hP, hP']
        · by_cases q2 : j = o
          · rw [q2]
            have e1 := (a.1 c hc).2.1
            have e2 := (b.1 c hc).2.1
            rw [hP] at e1
            rw [hP'] at e2
            rw [e1, e2]
          · have hj' := cv_rm_t.mpr ⟨hj, q1, q2⟩
            rw [← ra j hj', ← rb j hj', e]
      have := rk_c (w := w) (r := r) (i := 0) rfl same
      rw [a.2, b.2] at this
      exact this)
    exact Nat.le_trans this (fb_ct_le _ _)
  · have := cinj (N := cv_T w r 0 S) (P := fun _ => true) (R := fun m => decide (ur w r 0 S m c = o)) (g := fun m => rk w r 0 S (sw c o (ur w r 0 (cv_rm S c o) m))) (n := cv_T w r 0 (cv_rm S c o)) (fun m hm _ => by
      have a := ur_ok bw hr rfl (bh_rm0 (c := c) (o := o) hb) hm
      have b := rk_ok bw hr rfl hb (pc_sw a.1 hc ho hne hn)
      refine ⟨b.1, decide_eq_true ?_⟩
      rw [b.2 c hc]
      unfold sw
      rw [if_pos rfl]) (fun m m' hm hm' _ _ e => by
      have a := ur_ok bw hr rfl (bh_rm0 (c := c) (o := o) hb) hm
      have a' := ur_ok bw hr rfl (bh_rm0 (c := c) (o := o) hb) hm'
      have b := (rk_ok bw hr rfl hb (pc_sw a.1 hc ho hne hn)).2
      have b' := (rk_ok bw hr rfl hb (pc_sw a'.1 hc ho hne hn)).2
      have e : rk w r 0 S (sw c o (ur w r 0 (cv_rm S c o) m)) = rk w r 0 S (sw c o (ur w r 0 (cv_rm S c o) m')) := e
      have same : ∀ j, cv_rm S c o j = true → ur w r 0 (cv_rm S c o) m j = ur w r 0 (cv_rm S c o) m' j := fun j hj => by
        have hj' := cv_rm_t.mp hj
        have e1 := b j hj'.1
        have e2 := b' j hj'.1
        rw [e] at e1
        rw [e1] at e2
        unfold sw at e2
        rw [if_neg hj'.2.1, if_neg hj'.2.2, if_neg hj'.2.1, if_neg hj'.2.2] at e2
        exact e2
      have := rk_c (w := w) (r := r) (i := 0) rfl same
      rw [a.2, a'.2] at this
      exact this)
    rw [fb_ct_all.mpr (fun _ _ => rfl)] at this
    exact this
theorem any_c (bw : w ≤ 8) (hr : r = true → 4 ≤ w) (hi : ∀ a, nb w r a a = false) (hb : bh 0 S) (hc : S c = true) : cv_T w r 0 S = fb_sm (fun o => if S o = true ∧ nb w r c o = true then cv_T w r 0 (cv_rm S c o) else 0) 64 := by
  have e := ct_parts (fun m => ur w r 0 S m c) (M := 64) (cv_T w r 0 S) (fun m hm => by
    have a := (ur_ok bw hr rfl hb hm).1 c hc
    exact (hb _ a.1).2)
  refine Eq.trans e.symm (fb_sm_cong (fun o _ => ?_))
  by_cases q : S o = true ∧ nb w r c o = true
  · rw [if_pos q]
    have hne : c ≠ o := fun e => by
      have := q.2
      rw [← e, hi c] at this; cases this
    exact any_o bw hr hb hc q.1 hne q.2
  · rw [if_neg q, fb_ct_zero]
    intro m hm
    refine decide_eq_false fun e => q ?_
    have a := (ur_ok bw hr rfl hb hm).1 c hc
    have e : ur w r 0 S m c = o := e
    rw [e] at a
    exact ⟨a.1, a.2.2⟩
end ANY
