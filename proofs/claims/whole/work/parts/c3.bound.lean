/-! ===== the number of exact covers is small ===== -/
theorem wtp_m {U : Nat → Nat} {m s T T' k : Nat} (h : T ≤ T') : wtp U m s T k ≤ wtp U m s T' k := by
  unfold wtp
  by_cases q : s < m
  · rw [if_pos q, if_pos q]; exact Nat.mul_le_mul_left _ h
  · rw [if_neg q, if_neg q]; exact Nat.le_refl _
theorem tbU_b {k3 k4 k5 k6 d : Nat} (h : k3 + k4 + (k5 + k6) ≤ 6) (hd : d ≤ 24) : tbU k3 k4 k5 k6 d < 2147483648 := by
  have t := List.all_eq_true.mp tbc_t k3 (List.mem_range.mpr (by omega))
  have t := List.all_eq_true.mp t k4 (List.mem_range.mpr (by omega))
  have t := List.all_eq_true.mp t k5 (List.mem_range.mpr (by omega))
  have t := List.all_eq_true.mp t k6 (List.mem_range.mpr (by omega))
  rw [← tbl_g k3 k4 k5 k6 24 d hd, List.getD_eq_getElem?_getD]
  cases e : (tbl k3 k4 k5 k6 24)[24 - d]? with
  | none => exact Nat.two_pow_pos 31
  | some v => exact of_decide_eq_true (List.all_eq_true.mp t v (List.mem_of_getElem? e))
theorem exn_b {w h : Nat} {r : Bool} {S : Nat → Bool} {z z' : tq_S} {kN : Nat} {C M Z : Nat → Nat} {A : Nat → Int64} {P : Nat} {f : Nat → plc} {st : Nat → Nat} {g0 : Nat} (hd : jd w h r S) (kd : kdc kN C M Z A z) (ks : shps kN C Z A) (kf : kfam kN C A) (h24 : fb_ct S 64 ≤ 24) (hx : exc w h r S kN C M Z A P f st g0 z') : exn (fb_ct S 64) P f kN M < 2147483648 := by
  have hp := hx.2.2.2.1
  have hZ : ∀ k, k < kN → 3 ≤ Z k ∧ Z k ≤ 6 := fun k hk => (kd.2.2 k hk).2.2.1.2
  have pl := prs_plg hd ks h24 (fun k hk => (hZ k hk).1) hp
  have hK : ∀ p, p < P → (f p).2.1 < kN := fun p hP => (hp.2 p hP).1
  have k6 := ksz_6 hZ
  have K6 := kd.2.1
  generalize en : fb_ct S 64 = n at *
  have main := cnx_le (n := n) (P := P) (K := kN) (f := f) (Z := Z) (U := tbU (ksz Z kN 3) (ksz Z kN 4) (ksz Z kN 5) (ksz Z kN 6)) h24 hK (fun p hP => ⟨by have := (pl.1 p hP).2.1; rw [en] at this; exact this, (pl.1 p hP).2.2.2.2.1⟩) pl.2 (Nat.le_refl 1) (fun c m m0 _ => by
    obtain ⟨m, rfl⟩ : ∃ m', m = m' + 1 := ⟨m - 1, by omega⟩
    rw [sz_sum hK hZ c (m + 1), tbU_s]
    refine Nat.add_le_add (Nat.add_le_add (wtp_m (psz_3 hd ks kf hp c)) (wtp_m (psz_4 hd ks kf hp c))) (Nat.add_le_add (wtp_m (psz_56 hd ks kf hp c (Or.inl rfl))) (wtp_m (psz_56 hd ks kf hp c (Or.inr rfl))))) 8 0 (mst kN M) (Nat.two_pow_pos _)
  refine Nat.lt_of_le_of_lt main ?_
  exact tbU_b (by omega) (by omega)
