def wc_X11_previous_78 (Q : tq_O → tq_S → Prop) (a5 : Int32) (s0 : Int64) (z : tq_S) : Prop := wm_X11_show s0 z (tq_wv fun z101 => tq_nz a5 ∧ Q (.inl (some (.int a5))) z101)
theorem ac_X11_previous_78 {K : Nat × (Nat → Int32)} {Q : tq_O → tq_S → Prop} {a5 : Int32} {s0 : Int64} {z : tq_S} (h : wc_X11_previous_78 Q a5 s0 z) : tq_T K 5 1 mm_X11_previous 78 [.null, .null, .null, .null, .null, .int a5] [.long s0, .ref 0] z Q := by
  unfold wc_X11_previous_78 at h
  refine tq_callV (as := [.long s0]) (st := []) (d1 := 4) (x1 := 0) (x2 := 1) (by decide +kernel) ln_11_234 mf_X11_show rfl sh_0 rfl (by decide) np_X11_show rfl (Nat.le_of_ble_eq_true rfl) (by decide) (Nat.zero_add _).symm (tq_M_mono (am_X11_show h) ?_)
  refine tq_wv_e (fun z101 h => ?_)
  refine tq_s_iload (i := 5) (by decide +kernel) rfl ?_
  exact tq_ret_z (st := []) (ty := .boolean) (by decide +kernel) (tq_nz_f h.1).1 rfl h.2
def wc_X11_previous_61 (Q : tq_O → tq_S → Prop) (a1 : Int64) (a3 : Int64) (s0 : Int32) (z : tq_S) : Prop := ((s0 = 0 → wc_X11_previous_78 Q s0 (a1 - (1 : Int64)) z) ∧ (¬ s0 = 0 → wc_X11_previous_78 Q s0 (a3 - (1 : Int64)) z))
theorem ac_X11_previous_61 {K : Nat × (Nat → Int32)} {Q : tq_O → tq_S → Prop} {a1 : Int64} {a3 : Int64} {s0 : Int32} {z : tq_S} (h : wc_X11_previous_61 Q a1 a3 s0 z) : tq_T K 5 1 mm_X11_previous 61 [.ref 0, .long a1, .null, .long a3, .null, .null] [.int s0] z Q := by
  unfold wc_X11_previous_61 at h
  refine tq_s_istore (i := 5) (L9 := [.ref 0, .long a1, .null, .long a3, .null, .int s0]) (by decide +kernel) (by decide) rfl ?_
  refine tq_s_aload_n (kk := 0) (by decide +kernel) rfl ?_
  refine tq_s_iload (i := 5) (by decide +kernel) rfl ?_
  refine tq_if_eq (off := 9) (tgt := 75) (by decide +kernel) (by decide +kernel) (fun hc => ?_) (fun hc => ?_)
  · replace h := h.1 hc
    refine tq_s_lload_n (kk := 1) (by decide +kernel) rfl ?_
    refine tq_k_lc (n := 1) (v := (1 : Int64)) (by decide +kernel) (by decide +kernel) ?_
    refine tq_s_lsub (by decide +kernel) ?_
    exact tq_to (tq_ld1 (tq_ld1 (tq_lk1 (tq_ld1 (tq_lk1 (tq_lk1 tq_l0)))))) (ac_X11_previous_78 h)
  · replace h := h.2 hc
    refine tq_s_lload_n (kk := 3) (by decide +kernel) rfl ?_
    refine tq_k_lc (n := 1) (v := (1 : Int64)) (by decide +kernel) (by decide +kernel) ?_
    refine tq_s_lsub (by decide +kernel) ?_
    refine tq_s_goto (off := 6) (tgt := 78) (by decide +kernel) (by decide +kernel) ?_
    exact tq_to (tq_ld1 (tq_ld1 (tq_lk1 (tq_ld1 (tq_lk1 (tq_lk1 tq_l0)))))) (ac_X11_previous_78 h)
def wm_X11_previous  (z : tq_S) (Q : tq_O → tq_S → Prop) : Prop := ((¬ (tq_fi z 516) = 0 → wm_X5_total z (tq_wl fun r2 z1 => wm_X5_rank (tq_fl z1 517) (tq_fl z1 518) z1 (tq_wl fun r4 z3 => ((r4 ≤ (0 : Int64) → wc_X11_previous_61 Q r2 r4 (0 : Int32) z3) ∧ (¬ r4 ≤ (0 : Int64) → wc_X11_previous_61 Q r2 r4 (1 : Int32) z3))))) ∧ ((tq_fi z 516) = 0 → Q (.inr 5) z))
theorem am_X11_previous {K : Nat × (Nat → Int32)} {z : tq_S} {Q : tq_O → tq_S → Prop}  (h : wm_X11_previous z Q) : tq_M K 5 1 mm_X11_previous [.ref 0] z Q := by
  unfold wm_X11_previous at h
  refine tq_enter (L := [.ref 0, .null, .null, .null, .null, .null]) mf_X11_previous.1 rfl rfl (Nat.le_of_ble_eq_true rfl) ?_
  refine tq_s_aload_n (kk := 0) (by decide +kernel) rfl ?_
  refine fg_11_28_0 rfl (by decide +kernel) ?_
  refine fg_11_238_8 rfl (by decide +kernel) ?_
  refine tq_if_ne (off := 13) (tgt := 20) (by decide +kernel) (by decide +kernel) (fun hc => ?_) (fun hc => ?_)
  · replace h := h.1 hc
    refine tq_s_aload_n (kk := 0) (by decide +kernel) rfl ?_
    refine fg_11_21_0 rfl (by decide +kernel) ?_
    refine tq_callVN (as := []) (st := []) (d1 := 3) (x1 := 0) (x2 := 1) (by decide +kernel) ln_11_192 mf_X5_total rfl sh_2 rfl (by decide) np_X5_total rfl (Nat.le_of_ble_eq_true rfl) (by decide) (Nat.zero_add _).symm (tq_M_mono (am_X5_total h) ?_)
    refine tq_wl_e (fun r2 z1 h => ?_)
    refine tq_s_lstore_n (kk := 1) (L9 := [.ref 0, .long r2, .null, .null, .null, .null]) (by decide +kernel) (by decide) rfl ?_
    refine tq_s_aload_n (kk := 0) (by decide +kernel) rfl ?_
    refine fg_11_21_0 rfl (by decide +kernel) ?_
    refine tq_s_aload_n (kk := 0) (by decide +kernel) rfl ?_
    refine fg_11_28_0 rfl (by decide +kernel) ?_
    refine fg_11_243_8 rfl (by decide +kernel) ?_
    refine tq_s_aload_n (kk := 0) (by decide +kernel) rfl ?_
    refine fg_11_28_0 rfl (by decide +kernel) ?_
    refine fg_11_246_8 rfl (by decide +kernel) ?_
    refine tq_callVN (as := [.long (tq_fl z1 517), .long (tq_fl z1 518)]) (st := []) (d1 := 3) (x1 := 0) (x2 := 1) (by decide +kernel) ln_11_249 mf_X5_rank rfl sh_2 rfl (by decide) np_X5_rank rfl (Nat.le_of_ble_eq_true rfl) (by decide) (Nat.zero_add _).symm (tq_M_mono (am_X5_rank h) ?_)
    refine tq_wl_e (fun r4 z3 h => ?_)
    refine tq_s_lstore_n (kk := 3) (L9 := [.ref 0, .long r2, .null, .long r4, .null, .null]) (by decide +kernel) (by decide) rfl ?_
    refine tq_s_lload_n (kk := 3) (by decide +kernel) rfl ?_
    refine tq_k_lc (n := 0) (v := (0 : Int64)) (by decide +kernel) (by decide +kernel) ?_
    refine tq_lcmp_le (off := 7) (tgt := 60) (by decide +kernel) (by decide +kernel) (by decide +kernel) (fun hc => ?_) (fun hc => ?_)
    · replace h := h.1 hc
      refine tq_k_ic (n := 0) (v := (0 : Int32)) (by decide +kernel) kc_0 ?_
      exact ac_X11_previous_61 h
    · replace h := h.2 hc
      refine tq_k_ic (n := 1) (v := (1 : Int32)) (by decide +kernel) kc_1 ?_
      refine tq_s_goto (off := 4) (tgt := 61) (by decide +kernel) (by decide +kernel) ?_
      exact ac_X11_previous_61 h
  · replace h := h.2 hc
    exact tq_throwN th_11_223_241 rfl (by decide +kernel) (by decide +kernel) (by decide +kernel) (by decide +kernel) (by decide +kernel) (Nat.le_of_ble_eq_true rfl) rfl (Nat.le_refl 1) h
def wm_X11_number  (z : tq_S) (Q : tq_O → tq_S → Prop) : Prop := ((¬ (tq_fi z 516) = 0 → wm_X5_total z (tq_wl fun r2 z1 => wm_X5_rank (tq_fl z1 517) (tq_fl z1 518) z1 (tq_wl fun r4 z3 => wm_X11_say r4 z3 (tq_wi fun r6 z5 => Q (.inl (some (.int r6))) z5)))) ∧ ((tq_fi z 516) = 0 → Q (.inr 5) z))
theorem am_X11_number {K : Nat × (Nat → Int32)} {z : tq_S} {Q : tq_O → tq_S → Prop}  (h : wm_X11_number z Q) : tq_M K 4 1 mm_X11_number [.ref 0] z Q := by
  unfold wm_X11_number at h
  refine tq_enter (L := [.ref 0]) mf_X11_number.1 rfl rfl (Nat.le_of_ble_eq_true rfl) ?_
  refine tq_s_aload_n (kk := 0) (by decide +kernel) rfl ?_
  refine fg_11_28_0 rfl (by decide +kernel) ?_
  refine fg_11_238_8 rfl (by decide +kernel) ?_
  refine tq_if_ne (off := 13) (tgt := 20) (by decide +kernel) (by decide +kernel) (fun hc => ?_) (fun hc => ?_)
  · replace h := h.1 hc
    refine tq_s_aload_n (kk := 0) (by decide +kernel) rfl ?_
    refine fg_11_21_0 rfl (by decide +kernel) ?_
    refine tq_callVN (as := []) (st := []) (d1 := 3) (x1 := 0) (x2 := 1) (by decide +kernel) ln_11_192 mf_X5_total rfl sh_2 rfl (by decide) np_X5_total rfl (Nat.le_of_ble_eq_true rfl) (by decide) (Nat.zero_add _).symm (tq_M_mono (am_X5_total h) ?_)
    refine tq_wl_e (fun r2 z1 h => ?_)
    refine tq_s_pop2_2 (by decide +kernel) rfl ?_
    refine tq_s_aload_n (kk := 0) (by decide +kernel) rfl ?_
    refine tq_s_aload_n (kk := 0) (by decide +kernel) rfl ?_
    refine fg_11_21_0 rfl (by decide +kernel) ?_
    refine tq_s_aload_n (kk := 0) (by decide +kernel) rfl ?_
    refine fg_11_28_0 rfl (by decide +kernel) ?_
    refine fg_11_243_8 rfl (by decide +kernel) ?_
    refine tq_s_aload_n (kk := 0) (by decide +kernel) rfl ?_
    refine fg_11_28_0 rfl (by decide +kernel) ?_
    refine fg_11_246_8 rfl (by decide +kernel) ?_
    refine tq_callVN (as := [.long (tq_fl z1 517), .long (tq_fl z1 518)]) (st := [.ref 0]) (d1 := 3) (x1 := 0) (x2 := 1) (by decide +kernel) ln_11_249 mf_X5_rank rfl sh_2 rfl (by decide) np_X5_rank rfl (Nat.le_of_ble_eq_true rfl) (by decide) (Nat.zero_add _).symm (tq_M_mono (am_X5_rank h) ?_)
    refine tq_wl_e (fun r4 z3 h => ?_)
    refine tq_callV (as := [.long r4]) (st := []) (d1 := 3) (x1 := 0) (x2 := 1) (by decide +kernel) ln_11_196 mf_X11_say rfl sh_0 rfl (by decide) np_X11_say rfl (Nat.le_of_ble_eq_true rfl) (by decide) (Nat.zero_add _).symm (tq_M_mono (am_X11_say h) ?_)
    refine tq_wi_e (fun r6 z5 h => ?_)
    exact tq_ret_i (st := []) (by decide +kernel) rfl h
  · replace h := h.2 hc
    exact tq_throwN th_11_223_241 rfl (by decide +kernel) (by decide +kernel) (by decide +kernel) (by decide +kernel) (by decide +kernel) (Nat.le_of_ble_eq_true rfl) rfl (Nat.le_refl 1) h
def wm_X2_acrossPair (a1 : Int32) (a2 : Int32) (z : tq_S) (Q : tq_O → tq_S → Prop) : Prop := wm_X1_bit a1 a2 z (tq_wl fun r2 z1 => wm_X1_bit a1 (a2 + (1 : Int32)) z1 (tq_wl fun r4 z3 => Q (.inl (some (.long (r2 ||| r4)))) z3))
theorem am_X2_acrossPair {K : Nat × (Nat → Int32)} {x : Nat} {z : tq_S} {Q : tq_O → tq_S → Prop} {a1 : Int32} {a2 : Int32} (h : wm_X2_acrossPair a1 a2 z Q) : tq_M K 1 x mm_X2_acrossPair [.ref 8, .int a1, .int a2] z Q := by
  unfold wm_X2_acrossPair at h
  refine tq_enter (L := [.ref 8, .int a1, .int a2]) mf_X2_acrossPair.1 rfl rfl (Nat.le_of_ble_eq_true rfl) ?_
  refine tq_s_iload_n (kk := 1) (by decide +kernel) rfl ?_
  refine tq_s_iload_n (kk := 2) (by decide +kernel) rfl ?_
  refine tq_callSN (as := [.int a1, .int a2]) (st := []) (d1 := 0) (x1 := 0) (x2 := x) (by decide +kernel) ln_2_51 mf_X1_bit rfl (by decide) np_X1_bit rfl (Nat.le_of_ble_eq_true rfl) (by decide) (Nat.zero_add _).symm (tq_M_mono (am_X1_bit h) ?_)
  refine tq_wl_e (fun r2 z1 h => ?_)
  refine tq_s_iload_n (kk := 1) (by decide +kernel) rfl ?_
  refine tq_s_iload_n (kk := 2) (by decide +kernel) rfl ?_
  refine tq_k_ic (n := 1) (v := (1 : Int32)) (by decide +kernel) kc_1 ?_
  refine tq_s_iadd (by decide +kernel) ?_
  refine tq_callSN (as := [.int a1, .int (a2 + (1 : Int32))]) (st := [.long r2]) (d1 := 0) (x1 := 0) (x2 := x) (by decide +kernel) ln_2_51 mf_X1_bit rfl (by decide) np_X1_bit rfl (Nat.le_of_ble_eq_true rfl) (by decide) (Nat.zero_add _).symm (tq_M_mono (am_X1_bit h) ?_)
  refine tq_wl_e (fun r4 z3 h => ?_)
  refine tq_s_lor (by decide +kernel) ?_
  exact tq_ret_l (st := []) (by decide +kernel) rfl h
def wm_X2_downPair (a1 : Int32) (a2 : Int32) (z : tq_S) (Q : tq_O → tq_S → Prop) : Prop := wm_X1_bit a1 a2 z (tq_wl fun r2 z1 => wm_X1_rightOf a1 z1 (tq_wi fun r4 z3 => wm_X1_bit r4 a2 z3 (tq_wl fun r6 z5 => Q (.inl (some (.long (r2 ||| r6)))) z5)))
theorem am_X2_downPair {K : Nat × (Nat → Int32)} {x : Nat} {z : tq_S} {Q : tq_O → tq_S → Prop} {a1 : Int32} {a2 : Int32} (h : wm_X2_downPair a1 a2 z Q) : tq_M K 1 x mm_X2_downPair [.ref 8, .int a1, .int a2] z Q := by
  unfold wm_X2_downPair at h
  refine tq_enter (L := [.ref 8, .int a1, .int a2]) mf_X2_downPair.1 rfl rfl (Nat.le_of_ble_eq_true rfl) ?_
  refine tq_s_iload_n (kk := 1) (by decide +kernel) rfl ?_
  refine tq_s_iload_n (kk := 2) (by decide +kernel) rfl ?_
  refine tq_callSN (as := [.int a1, .int a2]) (st := []) (d1 := 0) (x1 := 0) (x2 := x) (by decide +kernel) ln_2_51 mf_X1_bit rfl (by decide) np_X1_bit rfl (Nat.le_of_ble_eq_true rfl) (by decide) (Nat.zero_add _).symm (tq_M_mono (am_X1_bit h) ?_)
  refine tq_wl_e (fun r2 z1 h => ?_)
  refine tq_s_aload_n (kk := 0) (by decide +kernel) rfl ?_
  refine fg_2_7_8 rfl (by decide +kernel) ?_
  refine tq_s_iload_n (kk := 1) (by decide +kernel) rfl ?_
  refine tq_callVN (as := [.int a1]) (st := [.long r2]) (d1 := 0) (x1 := 0) (x2 := x) (by decide +kernel) ln_2_70 mf_X1_rightOf rfl sh_1 rfl (by decide) np_X1_rightOf rfl (Nat.le_of_ble_eq_true rfl) (by decide) (Nat.zero_add _).symm (tq_M_mono (am_X1_rightOf h) ?_)
  refine tq_wi_e (fun r4 z3 h => ?_)
  refine tq_s_iload_n (kk := 2) (by decide +kernel) rfl ?_
  refine tq_callSN (as := [.int r4, .int a2]) (st := [.long r2]) (d1 := 0) (x1 := 0) (x2 := x) (by decide +kernel) ln_2_51 mf_X1_bit rfl (by decide) np_X1_bit rfl (Nat.le_of_ble_eq_true rfl) (by decide) (Nat.zero_add _).symm (tq_M_mono (am_X1_bit h) ?_)
  refine tq_wl_e (fun r6 z5 h => ?_)
  refine tq_s_lor (by decide +kernel) ?_
  exact tq_ret_l (st := []) (by decide +kernel) rfl h
def wm_X2_canFlip (a1 : Int32) (a2 : Int32) (z : tq_S) (Q : tq_O → tq_S → Prop) : Prop := wm_X1_rightOf a1 z (tq_wi fun r2 z1 => ((r2 < 0 → Q (.inl (some (.int (0 : Int32)))) z1) ∧ (¬ r2 < 0 → (((a2 + (1 : Int32)) < (tq_fi z1 65) → wm_X2_acrossPair a1 a2 z1 (tq_wl fun r4 z3 => wm_X2_downPair a1 a2 z3 (tq_wl fun r6 z5 => ((((tq_fl z5 517) &&& r4) = r4 → Q (.inl (some (.int (1 : Int32)))) z5) ∧ (¬ ((tq_fl z5 517) &&& r4) = r4 → ((¬ ((tq_fl z5 518) &&& r6) = r6 → Q (.inl (some (.int (0 : Int32)))) z5) ∧ (((tq_fl z5 518) &&& r6) = r6 → Q (.inl (some (.int (1 : Int32)))) z5))))))) ∧ (¬ (a2 + (1 : Int32)) < (tq_fi z1 65) → Q (.inl (some (.int (0 : Int32)))) z1)))))
theorem am_X2_canFlip {K : Nat × (Nat → Int32)} {x : Nat} {z : tq_S} {Q : tq_O → tq_S → Prop} {a1 : Int32} {a2 : Int32} (h : wm_X2_canFlip a1 a2 z Q) : tq_M K 2 x mm_X2_canFlip [.ref 8, .int a1, .int a2] z Q := by
  unfold wm_X2_canFlip at h
  refine tq_enter (L := [.ref 8, .int a1, .int a2, .null, .null, .null, .null]) mf_X2_canFlip.1 rfl rfl (Nat.le_of_ble_eq_true rfl) ?_
  refine tq_s_aload_n (kk := 0) (by decide +kernel) rfl ?_
  refine fg_2_7_8 rfl (by decide +kernel) ?_
  refine tq_s_iload_n (kk := 1) (by decide +kernel) rfl ?_
  refine tq_callVN (as := [.int a1]) (st := []) (d1 := 0) (x1 := 0) (x2 := x) (by decide +kernel) ln_2_70 mf_X1_rightOf rfl sh_1 rfl (by decide) np_X1_rightOf rfl (Nat.le_of_ble_eq_true rfl) (by decide) (Nat.zero_add _).symm (tq_M_mono (am_X1_rightOf h) ?_)
  refine tq_wi_e (fun r2 z1 h => ?_)
  refine tq_if_lt (off := 16) (tgt := 24) (by decide +kernel) (by decide +kernel) (fun hc => ?_) (fun hc => ?_)
  · replace h := h.1 hc
    refine tq_k_ic (n := 0) (v := (0 : Int32)) (by decide +kernel) kc_0 ?_
    exact tq_ret_z (st := []) (ty := .boolean) (by decide +kernel) (by decide +kernel) rfl h
  · replace h := h.2 hc
    refine tq_s_iload_n (kk := 2) (by decide +kernel) rfl ?_
    refine tq_k_ic (n := 1) (v := (1 : Int32)) (by decide +kernel) kc_1 ?_
    refine tq_s_iadd (by decide +kernel) ?_
    refine tq_s_aload_n (kk := 0) (by decide +kernel) rfl ?_
    refine fg_2_7_8 rfl (by decide +kernel) ?_
    refine fg_2_65_1 rfl (by decide +kernel) ?_
    refine tq_icmp_lt (off := 5) (tgt := 26) (by decide +kernel) (by decide +kernel) (fun hc => ?_) (fun hc => ?_)
    · replace h := h.1 hc
      refine tq_s_aload_n (kk := 0) (by decide +kernel) rfl ?_
      refine tq_s_iload_n (kk := 1) (by decide +kernel) rfl ?_
      refine tq_s_iload_n (kk := 2) (by decide +kernel) rfl ?_
      refine tq_callV (as := [.int a1, .int a2]) (st := []) (d1 := 1) (x1 := 0) (x2 := x) (by decide +kernel) ln_2_74 mf_X2_acrossPair rfl sh_8 rfl (by decide) np_X2_acrossPair rfl (Nat.le_of_ble_eq_true rfl) (by decide) (Nat.zero_add _).symm (tq_M_mono (am_X2_acrossPair h) ?_)
      refine tq_wl_e (fun r4 z3 h => ?_)
      refine tq_s_lstore_n (kk := 3) (L9 := [.ref 8, .int a1, .int a2, .long r4, .null, .null, .null]) (by decide +kernel) (by decide) rfl ?_
      refine tq_s_aload_n (kk := 0) (by decide +kernel) rfl ?_
      refine tq_s_iload_n (kk := 1) (by decide +kernel) rfl ?_
      refine tq_s_iload_n (kk := 2) (by decide +kernel) rfl ?_
      refine tq_callV (as := [.int a1, .int a2]) (st := []) (d1 := 1) (x1 := 0) (x2 := x) (by decide +kernel) ln_2_77 mf_X2_downPair rfl sh_8 rfl (by decide) np_X2_downPair rfl (Nat.le_of_ble_eq_true rfl) (by decide) (Nat.zero_add _).symm (tq_M_mono (am_X2_downPair h) ?_)
      refine tq_wl_e (fun r6 z5 h => ?_)
      refine tq_s_lstore (i := 5) (L9 := [.ref 8, .int a1, .int a2, .long r4, .null, .long r6, .null]) (by decide +kernel) (by decide) rfl ?_
      refine tq_s_aload_n (kk := 0) (by decide +kernel) rfl ?_
      refine fg_2_35_8 rfl (by decide +kernel) ?_
      refine tq_s_lload_n (kk := 3) (by decide +kernel) rfl ?_
      refine tq_s_land (by decide +kernel) ?_
      refine tq_s_lload_n (kk := 3) (by decide +kernel) rfl ?_
      refine tq_lcmp_eq (off := 16) (tgt := 65) (by decide +kernel) (by decide +kernel) (by decide +kernel) (fun hc => ?_) (fun hc => ?_)
      · replace h := h.1 hc
        refine tq_k_ic (n := 1) (v := (1 : Int32)) (by decide +kernel) kc_1 ?_
        refine tq_s_goto (off := 4) (tgt := 70) (by decide +kernel) (by decide +kernel) ?_
        exact tq_ret_z (st := []) (ty := .boolean) (by decide +kernel) (by decide +kernel) rfl h
      · replace h := h.2 hc
        refine tq_s_aload_n (kk := 0) (by decide +kernel) rfl ?_
        refine fg_2_39_8 rfl (by decide +kernel) ?_
        refine tq_s_lload (i := 5) (by decide +kernel) rfl ?_
        refine tq_s_land (by decide +kernel) ?_
        refine tq_s_lload (i := 5) (by decide +kernel) rfl ?_
        refine tq_lcmp_ne (off := 7) (tgt := 69) (by decide +kernel) (by decide +kernel) (by decide +kernel) (fun hc => ?_) (fun hc => ?_)
        · replace h := h.1 hc
          refine tq_k_ic (n := 0) (v := (0 : Int32)) (by decide +kernel) kc_0 ?_
          exact tq_ret_z (st := []) (ty := .boolean) (by decide +kernel) (by decide +kernel) rfl h
        · replace h := h.2 hc
          refine tq_k_ic (n := 1) (v := (1 : Int32)) (by decide +kernel) kc_1 ?_
          refine tq_s_goto (off := 4) (tgt := 70) (by decide +kernel) (by decide +kernel) ?_
          exact tq_ret_z (st := []) (ty := .boolean) (by decide +kernel) (by decide +kernel) rfl h
    · replace h := h.2 hc
      refine tq_k_ic (n := 0) (v := (0 : Int32)) (by decide +kernel) kc_0 ?_
      exact tq_ret_z (st := []) (ty := .boolean) (by decide +kernel) (by decide +kernel) rfl h
def wc_X2_countFlips_43 (B4 : Int32 → Int32 → tq_S → Prop) (B17 : Int32 → Int32 → tq_S → Prop) (Q : tq_O → tq_S → Prop) (a2 : Int32) (a3 : Int32) (s0 : Int32) (s1 : Int32) (z : tq_S) : Prop := ∀ v101 : Int32, v101 = (s1 + s0) → ∀ v102 : Int32, v102 = a3 + (1 : Int32) → B17 v101 v102 z
theorem ac_X2_countFlips_43 {K : Nat × (Nat → Int32)} {x : Nat} {Q : tq_O → tq_S → Prop} {B4 : Int32 → Int32 → tq_S → Prop} {B17 : Int32 → Int32 → tq_S → Prop} {a2 : Int32} {a3 : Int32} {s0 : Int32} {s1 : Int32} {z : tq_S} (hB4 : ∀ (b1 : Int32) (b2 : Int32) (z : tq_S), B4 b1 b2 z → tq_T K 3 x mm_X2_countFlips 4 [.ref 8, .int b1, .int b2, .null] [] z Q) (hB17 : ∀ (b1 : Int32) (b3 : Int32) (z : tq_S), B17 b1 b3 z → tq_T K 3 x mm_X2_countFlips 17 [.ref 8, .int b1, .int a2, .int b3] [] z Q) (h : wc_X2_countFlips_43 B4 B17 Q a2 a3 s0 s1 z) : tq_T K 3 x mm_X2_countFlips 43 [.ref 8, .null, .int a2, .int a3] [.int s0, .int s1] z Q := by
  unfold wc_X2_countFlips_43 at h
  refine tq_s_iadd (by decide +kernel) ?_
  refine tq_g_istore_n (kk := 1) (fun v101 => [.ref 8, .int v101, .int a2, .int a3]) (by decide +kernel) (by decide) (fun _ => rfl) (fun v101 ev101 => ?_)
  replace h := h v101 ev101
  refine tq_g_iinc (i := 3) (fun v102 => [.ref 8, .int v101, .int a2, .int v102]) (by decide +kernel) rfl (1 : Int32) kc_1 (fun _ => rfl) (fun v102 ev102 => ?_)
  replace h := h v102 ev102
  refine tq_s_goto (off := -31) (tgt := 17) (by decide +kernel) (by decide +kernel) ?_
  exact hB17 _ _ _ h
def wc_X2_countFlips_51 (B4 : Int32 → Int32 → tq_S → Prop) (Q : tq_O → tq_S → Prop) (a1 : Int32) (a2 : Int32) (z : tq_S) : Prop := ∀ v101 : Int32, v101 = a2 + (1 : Int32) → B4 a1 v101 z
theorem ac_X2_countFlips_51 {K : Nat × (Nat → Int32)} {x : Nat} {Q : tq_O → tq_S → Prop} {B4 : Int32 → Int32 → tq_S → Prop} {a1 : Int32} {a2 : Int32} {z : tq_S} (hB4 : ∀ (b1 : Int32) (b2 : Int32) (z : tq_S), B4 b1 b2 z → tq_T K 3 x mm_X2_countFlips 4 [.ref 8, .int b1, .int b2, .null] [] z Q) (h : wc_X2_countFlips_51 B4 Q a1 a2 z) : tq_T K 3 x mm_X2_countFlips 51 [.ref 8, .int a1, .int a2, .null] [] z Q := by
  unfold wc_X2_countFlips_51 at h
  refine tq_g_iinc (i := 2) (fun v101 => [.ref 8, .int a1, .int v101, .null]) (by decide +kernel) rfl (1 : Int32) kc_1 (fun _ => rfl) (fun v101 ev101 => ?_)
  replace h := h v101 ev101
  refine tq_s_goto (off := -50) (tgt := 4) (by decide +kernel) (by decide +kernel) ?_
  exact hB4 _ _ _ h
def wb_X2_countFlips_17 (B4 : Int32 → Int32 → tq_S → Prop) (B17 : Int32 → Int32 → tq_S → Prop) (Q : tq_O → tq_S → Prop) (a1 : Int32) (a2 : Int32) (a3 : Int32) (z : tq_S) : Prop := (((tq_fi z 64) ≤ a3 → wc_X2_countFlips_51 B4 Q a1 a2 z) ∧ (¬ (tq_fi z 64) ≤ a3 → wm_X2_canFlip a3 a2 z (tq_wi fun r102 z101 => ((r102 = 0 → wc_X2_countFlips_43 B4 B17 Q a2 a3 (0 : Int32) a1 z101) ∧ (¬ r102 = 0 → wc_X2_countFlips_43 B4 B17 Q a2 a3 (1 : Int32) a1 z101)))))
def wc_X2_countFlips_17 (B4 : Int32 → Int32 → tq_S → Prop) (Q : tq_O → tq_S → Prop) (a1 : Int32) (a2 : Int32) (a3 : Int32) (z : tq_S) : Prop := tq_lp (σ := Int32 × Int32 × tq_S) (fun B s => wb_X2_countFlips_17 B4 (fun b1 b3 z => B (b1, b3, z)) Q s.1 a2 s.2.1 s.2.2) (a1, a3, z)
theorem ab_X2_countFlips_17 {K : Nat × (Nat → Int32)} {x : Nat} {Q : tq_O → tq_S → Prop} {B4 : Int32 → Int32 → tq_S → Prop} {B17 : Int32 → Int32 → tq_S → Prop} {a1 : Int32} {a2 : Int32} {a3 : Int32} {z : tq_S} (hB4 : ∀ (b1 : Int32) (b2 : Int32) (z : tq_S), B4 b1 b2 z → tq_T K 3 x mm_X2_countFlips 4 [.ref 8, .int b1, .int b2, .null] [] z Q) (hB17 : ∀ (b1 : Int32) (b3 : Int32) (z : tq_S), B17 b1 b3 z → tq_T K 3 x mm_X2_countFlips 17 [.ref 8, .int b1, .int a2, .int b3] [] z Q) (h : wb_X2_countFlips_17 B4 B17 Q a1 a2 a3 z) : tq_T K 3 x mm_X2_countFlips 17 [.ref 8, .int a1, .int a2, .int a3] [] z Q := by
  unfold wb_X2_countFlips_17 at h
  refine tq_s_iload_n (kk := 3) (by decide +kernel) rfl ?_
  refine tq_s_aload_n (kk := 0) (by decide +kernel) rfl ?_
  refine fg_2_7_8 rfl (by decide +kernel) ?_
  refine fg_2_57_1 rfl (by decide +kernel) ?_
  refine tq_icmp_ge (off := 26) (tgt := 51) (by decide +kernel) (by decide +kernel) (fun hc => ?_) (fun hc => ?_)
  · replace h := h.1 hc
    exact tq_to (tq_lk1 (tq_lk1 (tq_lk1 (tq_ld1 tq_l0)))) (ac_X2_countFlips_51 hB4 h)
  · replace h := h.2 hc
    refine tq_s_iload_n (kk := 1) (by decide +kernel) rfl ?_
    refine tq_s_aload_n (kk := 0) (by decide +kernel) rfl ?_
    refine tq_s_iload_n (kk := 3) (by decide +kernel) rfl ?_
    refine tq_s_iload_n (kk := 2) (by decide +kernel) rfl ?_
    refine tq_callV (as := [.int a3, .int a2]) (st := [.int a1]) (d1 := 2) (x1 := 0) (x2 := x) (by decide +kernel) ln_2_80 mf_X2_canFlip rfl sh_8 rfl (by decide) np_X2_canFlip rfl (Nat.le_of_ble_eq_true rfl) (by decide) (Nat.zero_add _).symm (tq_M_mono (am_X2_canFlip h) ?_)
    refine tq_wi_e (fun r102 z101 h => ?_)
    refine tq_if_eq (off := 7) (tgt := 42) (by decide +kernel) (by decide +kernel) (fun hc => ?_) (fun hc => ?_)
    · replace h := h.1 hc
      refine tq_k_ic (n := 0) (v := (0 : Int32)) (by decide +kernel) kc_0 ?_
      exact tq_to (tq_lk1 (tq_ld1 (tq_lk1 (tq_lk1 tq_l0)))) (ac_X2_countFlips_43 hB4 hB17 h)
    · replace h := h.2 hc
      refine tq_k_ic (n := 1) (v := (1 : Int32)) (by decide +kernel) kc_1 ?_
      refine tq_s_goto (off := 4) (tgt := 43) (by decide +kernel) (by decide +kernel) ?_
      exact tq_to (tq_lk1 (tq_ld1 (tq_lk1 (tq_lk1 tq_l0)))) (ac_X2_countFlips_43 hB4 hB17 h)
theorem ac_X2_countFlips_17 {K : Nat × (Nat → Int32)} {x : Nat} {Q : tq_O → tq_S → Prop} {B4 : Int32 → Int32 → tq_S → Prop} {a1 : Int32} {a2 : Int32} {a3 : Int32} {z : tq_S} (hB4 : ∀ (b1 : Int32) (b2 : Int32) (z : tq_S), B4 b1 b2 z → tq_T K 3 x mm_X2_countFlips 4 [.ref 8, .int b1, .int b2, .null] [] z Q) (h : wc_X2_countFlips_17 B4 Q a1 a2 a3 z) : tq_T K 3 x mm_X2_countFlips 17 [.ref 8, .int a1, .int a2, .int a3] [] z Q :=
  tq_lp_T (σ := Int32 × Int32 × tq_S) (s := (a1, a3, z)) (G := fun s => tq_T K 3 x mm_X2_countFlips 17 [.ref 8, .int s.1, .int a2, .int s.2.1] [] s.2.2 Q) (fun B hB s h => ab_X2_countFlips_17 hB4 (fun b1 b3 z h => hB (b1, b3, z) h) h) h
def wb_X2_countFlips_4 (B4 : Int32 → Int32 → tq_S → Prop) (Q : tq_O → tq_S → Prop) (a1 : Int32) (a2 : Int32) (z : tq_S) : Prop := (((tq_fi z 65) ≤ a2 → Q (.inl (some (.int a1))) z) ∧ (¬ (tq_fi z 65) ≤ a2 → wc_X2_countFlips_17 B4 Q a1 a2 (0 : Int32) z))
def wc_X2_countFlips_4 (Q : tq_O → tq_S → Prop) (a1 : Int32) (a2 : Int32) (z : tq_S) : Prop := tq_lp (σ := Int32 × Int32 × tq_S) (fun B s => wb_X2_countFlips_4 (fun b1 b2 z => B (b1, b2, z)) Q s.1 s.2.1 s.2.2) (a1, a2, z)
theorem ab_X2_countFlips_4 {K : Nat × (Nat → Int32)} {x : Nat} {Q : tq_O → tq_S → Prop} {B4 : Int32 → Int32 → tq_S → Prop} {a1 : Int32} {a2 : Int32} {z : tq_S} (hB4 : ∀ (b1 : Int32) (b2 : Int32) (z : tq_S), B4 b1 b2 z → tq_T K 3 x mm_X2_countFlips 4 [.ref 8, .int b1, .int b2, .null] [] z Q) (h : wb_X2_countFlips_4 B4 Q a1 a2 z) : tq_T K 3 x mm_X2_countFlips 4 [.ref 8, .int a1, .int a2, .null] [] z Q := by
  unfold wb_X2_countFlips_4 at h
  refine tq_s_iload_n (kk := 2) (by decide +kernel) rfl ?_
  refine tq_s_aload_n (kk := 0) (by decide +kernel) rfl ?_
  refine fg_2_7_8 rfl (by decide +kernel) ?_
  refine fg_2_65_1 rfl (by decide +kernel) ?_
  refine tq_icmp_ge (off := 45) (tgt := 57) (by decide +kernel) (by decide +kernel) (fun hc => ?_) (fun hc => ?_)
  · replace h := h.1 hc
    refine tq_s_iload_n (kk := 1) (by decide +kernel) rfl ?_
    exact tq_ret_i (st := []) (by decide +kernel) rfl h
  · replace h := h.2 hc
    refine tq_k_ic (n := 0) (v := (0 : Int32)) (by decide +kernel) kc_0 ?_
    refine tq_s_istore_n (kk := 3) (L9 := [.ref 8, .int a1, .int a2, .int (0 : Int32)]) (by decide +kernel) (by decide) rfl ?_
    exact ac_X2_countFlips_17 hB4 h
theorem ac_X2_countFlips_4 {K : Nat × (Nat → Int32)} {x : Nat} {Q : tq_O → tq_S → Prop} {a1 : Int32} {a2 : Int32} {z : tq_S} (h : wc_X2_countFlips_4 Q a1 a2 z) : tq_T K 3 x mm_X2_countFlips 4 [.ref 8, .int a1, .int a2, .null] [] z Q :=
  tq_lp_T (σ := Int32 × Int32 × tq_S) (s := (a1, a2, z)) (G := fun s => tq_T K 3 x mm_X2_countFlips 4 [.ref 8, .int s.1, .int s.2.1, .null] [] s.2.2 Q) (fun B hB s h => ab_X2_countFlips_4 (fun b1 b2 z h => hB (b1, b2, z) h) h) h
def wm_X2_countFlips  (z : tq_S) (Q : tq_O → tq_S → Prop) : Prop := wc_X2_countFlips_4 Q (0 : Int32) (0 : Int32) z
theorem am_X2_countFlips {K : Nat × (Nat → Int32)} {x : Nat} {z : tq_S} {Q : tq_O → tq_S → Prop}  (h : wm_X2_countFlips z Q) : tq_M K 3 x mm_X2_countFlips [.ref 8] z Q := by
  unfold wm_X2_countFlips at h
  refine tq_enter (L := [.ref 8, .null, .null, .null]) mf_X2_countFlips.1 rfl rfl (Nat.le_of_ble_eq_true rfl) ?_
  refine tq_k_ic (n := 0) (v := (0 : Int32)) (by decide +kernel) kc_0 ?_
  refine tq_s_istore_n (kk := 1) (L9 := [.ref 8, .int (0 : Int32), .null, .null]) (by decide +kernel) (by decide) rfl ?_
  refine tq_k_ic (n := 0) (v := (0 : Int32)) (by decide +kernel) kc_0 ?_
  refine tq_s_istore_n (kk := 2) (L9 := [.ref 8, .int (0 : Int32), .int (0 : Int32), .null]) (by decide +kernel) (by decide) rfl ?_
  exact ac_X2_countFlips_4 h
def wm_X11_flips  (z : tq_S) (Q : tq_O → tq_S → Prop) : Prop := ((¬ (tq_fi z 516) = 0 → wm_X2_countFlips z (tq_wi fun r2 z1 => Q (.inl (some (.int r2))) z1)) ∧ ((tq_fi z 516) = 0 → Q (.inr 5) z))
theorem am_X11_flips {K : Nat × (Nat → Int32)} {z : tq_S} {Q : tq_O → tq_S → Prop}  (h : wm_X11_flips z Q) : tq_M K 4 1 mm_X11_flips [.ref 0] z Q := by
  unfold wm_X11_flips at h
  refine tq_enter (L := [.ref 0]) mf_X11_flips.1 rfl rfl (Nat.le_of_ble_eq_true rfl) ?_
  refine tq_s_aload_n (kk := 0) (by decide +kernel) rfl ?_
  refine fg_11_28_0 rfl (by decide +kernel) ?_
  refine fg_11_238_8 rfl (by decide +kernel) ?_
  refine tq_if_ne (off := 13) (tgt := 20) (by decide +kernel) (by decide +kernel) (fun hc => ?_) (fun hc => ?_)
  · replace h := h.1 hc
    refine tq_s_aload_n (kk := 0) (by decide +kernel) rfl ?_
    refine fg_11_28_0 rfl (by decide +kernel) ?_
    refine tq_callVN (as := []) (st := []) (d1 := 3) (x1 := 0) (x2 := 1) (by decide +kernel) ln_11_256 mf_X2_countFlips rfl sh_8 rfl (by decide) np_X2_countFlips rfl (Nat.le_of_ble_eq_true rfl) (by decide) (Nat.zero_add _).symm (tq_M_mono (am_X2_countFlips h) ?_)
    refine tq_wi_e (fun r2 z1 h => ?_)
    exact tq_ret_i (st := []) (by decide +kernel) rfl h
  · replace h := h.2 hc
    exact tq_throwN th_11_223_241 rfl (by decide +kernel) (by decide +kernel) (by decide +kernel) (by decide +kernel) (by decide +kernel) (Nat.le_of_ble_eq_true rfl) rfl (Nat.le_refl 1) h
def wc_X2_squareOf_48 (Q : tq_O → tq_S → Prop) (a3 : Int32) (a4 : Int32) (z : tq_S) : Prop := Q (.inl (some (.int (((8 : Int32) * a3) + a4)))) z
theorem ac_X2_squareOf_48 {K : Nat × (Nat → Int32)} {x : Nat} {Q : tq_O → tq_S → Prop} {a3 : Int32} {a4 : Int32} {z : tq_S} (h : wc_X2_squareOf_48 Q a3 a4 z) : tq_T K 3 x mm_X2_squareOf 48 [.null, .null, .null, .int a3, .int a4] [] z Q := by
  unfold wc_X2_squareOf_48 at h
  refine tq_k_bi (n := 8) (v := (8 : Int32)) (by decide +kernel) kb_8 ?_
  refine tq_s_iload_n (kk := 3) (by decide +kernel) rfl ?_
  refine tq_s_imul (by decide +kernel) ?_
  refine tq_s_iload (i := 4) (by decide +kernel) rfl ?_
  refine tq_s_iadd (by decide +kernel) ?_
  exact tq_ret_i (st := []) (by decide +kernel) rfl h
def wc_X2_squareOf_59 (B4 : Int32 → Int32 → tq_S → Prop) (B22 : Int32 → Int32 → tq_S → Prop) (Q : tq_O → tq_S → Prop) (a2 : Int32) (a3 : Int32) (a4 : Int32) (z : tq_S) : Prop := ∀ v101 : Int32, v101 = a4 + (1 : Int32) → B22 a2 v101 z
theorem ac_X2_squareOf_59 {K : Nat × (Nat → Int32)} {x : Nat} {Q : tq_O → tq_S → Prop} {B4 : Int32 → Int32 → tq_S → Prop} {B22 : Int32 → Int32 → tq_S → Prop} {a2 : Int32} {a3 : Int32} {a4 : Int32} {z : tq_S} (hB4 : ∀ (b2 : Int32) (b3 : Int32) (z : tq_S), B4 b2 b3 z → tq_T K 3 x mm_X2_squareOf 4 [.ref 8, .null, .int b2, .int b3, .null] [] z Q) (hB22 : ∀ (b2 : Int32) (b4 : Int32) (z : tq_S), B22 b2 b4 z → tq_T K 3 x mm_X2_squareOf 22 [.ref 8, .null, .int b2, .int a3, .int b4] [] z Q) (h : wc_X2_squareOf_59 B4 B22 Q a2 a3 a4 z) : tq_T K 3 x mm_X2_squareOf 59 [.ref 8, .null, .int a2, .int a3, .int a4] [] z Q := by
  unfold wc_X2_squareOf_59 at h
  refine tq_g_iinc (i := 4) (fun v101 => [.ref 8, .null, .int a2, .int a3, .int v101]) (by decide +kernel) rfl (1 : Int32) kc_1 (fun _ => rfl) (fun v101 ev101 => ?_)
  replace h := h v101 ev101
  refine tq_s_goto (off := -40) (tgt := 22) (by decide +kernel) (by decide +kernel) ?_
  exact hB22 _ _ _ h
def wc_X2_squareOf_65 (B4 : Int32 → Int32 → tq_S → Prop) (Q : tq_O → tq_S → Prop) (a2 : Int32) (a3 : Int32) (z : tq_S) : Prop := ∀ v101 : Int32, v101 = a3 + (1 : Int32) → B4 a2 v101 z
theorem ac_X2_squareOf_65 {K : Nat × (Nat → Int32)} {x : Nat} {Q : tq_O → tq_S → Prop} {B4 : Int32 → Int32 → tq_S → Prop} {a2 : Int32} {a3 : Int32} {z : tq_S} (hB4 : ∀ (b2 : Int32) (b3 : Int32) (z : tq_S), B4 b2 b3 z → tq_T K 3 x mm_X2_squareOf 4 [.ref 8, .null, .int b2, .int b3, .null] [] z Q) (h : wc_X2_squareOf_65 B4 Q a2 a3 z) : tq_T K 3 x mm_X2_squareOf 65 [.ref 8, .null, .int a2, .int a3, .null] [] z Q := by
  unfold wc_X2_squareOf_65 at h
  refine tq_g_iinc (i := 3) (fun v101 => [.ref 8, .null, .int a2, .int v101, .null]) (by decide +kernel) rfl (1 : Int32) kc_1 (fun _ => rfl) (fun v101 ev101 => ?_)
  replace h := h v101 ev101
  refine tq_s_goto (off := -64) (tgt := 4) (by decide +kernel) (by decide +kernel) ?_
  exact hB4 _ _ _ h
def wb_X2_squareOf_22 (B4 : Int32 → Int32 → tq_S → Prop) (B22 : Int32 → Int32 → tq_S → Prop) (Q : tq_O → tq_S → Prop) (a2 : Int32) (a3 : Int32) (a4 : Int32) (z : tq_S) : Prop := (((tq_fi z 64) ≤ a4 → wc_X2_squareOf_65 B4 Q a2 a3 z) ∧ (¬ (tq_fi z 64) ≤ a4 → wm_X2_canFlip a4 a3 z (tq_wi fun r102 z101 => ((r102 = 0 → wc_X2_squareOf_59 B4 B22 Q a2 a3 a4 z101) ∧ (¬ r102 = 0 → ((¬ a2 = 0 → ∀ v103 : Int32, v103 = a2 + (-1 : Int32) → wc_X2_squareOf_59 B4 B22 Q v103 a3 a4 z101) ∧ (a2 = 0 → wc_X2_squareOf_48 Q a3 a4 z101)))))))
def wc_X2_squareOf_22 (B4 : Int32 → Int32 → tq_S → Prop) (Q : tq_O → tq_S → Prop) (a2 : Int32) (a3 : Int32) (a4 : Int32) (z : tq_S) : Prop := tq_lp (σ := Int32 × Int32 × tq_S) (fun B s => wb_X2_squareOf_22 B4 (fun b2 b4 z => B (b2, b4, z)) Q s.1 a3 s.2.1 s.2.2) (a2, a4, z)
theorem ab_X2_squareOf_22 {K : Nat × (Nat → Int32)} {x : Nat} {Q : tq_O → tq_S → Prop} {B4 : Int32 → Int32 → tq_S → Prop} {B22 : Int32 → Int32 → tq_S → Prop} {a2 : Int32} {a3 : Int32} {a4 : Int32} {z : tq_S} (hB4 : ∀ (b2 : Int32) (b3 : Int32) (z : tq_S), B4 b2 b3 z → tq_T K 3 x mm_X2_squareOf 4 [.ref 8, .null, .int b2, .int b3, .null] [] z Q) (hB22 : ∀ (b2 : Int32) (b4 : Int32) (z : tq_S), B22 b2 b4 z → tq_T K 3 x mm_X2_squareOf 22 [.ref 8, .null, .int b2, .int a3, .int b4] [] z Q) (h : wb_X2_squareOf_22 B4 B22 Q a2 a3 a4 z) : tq_T K 3 x mm_X2_squareOf 22 [.ref 8, .null, .int a2, .int a3, .int a4] [] z Q := by
  unfold wb_X2_squareOf_22 at h
  refine tq_s_iload (i := 4) (by decide +kernel) rfl ?_
  refine tq_s_aload_n (kk := 0) (by decide +kernel) rfl ?_
  refine fg_2_7_8 rfl (by decide +kernel) ?_
  refine fg_2_57_1 rfl (by decide +kernel) ?_
  refine tq_icmp_ge (off := 34) (tgt := 65) (by decide +kernel) (by decide +kernel) (fun hc => ?_) (fun hc => ?_)
  · replace h := h.1 hc
    exact tq_to (tq_lk1 (tq_lk1 (tq_lk1 (tq_lk1 (tq_ld1 tq_l0))))) (ac_X2_squareOf_65 hB4 h)
  · replace h := h.2 hc
    refine tq_s_aload_n (kk := 0) (by decide +kernel) rfl ?_
    refine tq_s_iload (i := 4) (by decide +kernel) rfl ?_
    refine tq_s_iload_n (kk := 3) (by decide +kernel) rfl ?_
    refine tq_callV (as := [.int a4, .int a3]) (st := []) (d1 := 2) (x1 := 0) (x2 := x) (by decide +kernel) ln_2_80 mf_X2_canFlip rfl sh_8 rfl (by decide) np_X2_canFlip rfl (Nat.le_of_ble_eq_true rfl) (by decide) (Nat.zero_add _).symm (tq_M_mono (am_X2_canFlip h) ?_)
    refine tq_wi_e (fun r102 z101 h => ?_)
    refine tq_if_eq (off := 18) (tgt := 59) (by decide +kernel) (by decide +kernel) (fun hc => ?_) (fun hc => ?_)
    · replace h := h.1 hc
      exact ac_X2_squareOf_59 hB4 hB22 h
    · replace h := h.2 hc
      refine tq_s_iload_n (kk := 2) (by decide +kernel) rfl ?_
      refine tq_if_ne (off := 11) (tgt := 56) (by decide +kernel) (by decide +kernel) (fun hc => ?_) (fun hc => ?_)
      · replace h := h.1 hc
        refine tq_g_iinc (i := 2) (fun v103 => [.ref 8, .null, .int v103, .int a3, .int a4]) (by decide +kernel) rfl (-1 : Int32) kc_m1 (fun _ => rfl) (fun v103 ev103 => ?_)
        replace h := h v103 ev103
        exact ac_X2_squareOf_59 hB4 hB22 h
      · replace h := h.2 hc
        exact tq_to (tq_ld1 (tq_lk1 (tq_ld1 (tq_lk1 (tq_lk1 tq_l0))))) (ac_X2_squareOf_48 h)
theorem ac_X2_squareOf_22 {K : Nat × (Nat → Int32)} {x : Nat} {Q : tq_O → tq_S → Prop} {B4 : Int32 → Int32 → tq_S → Prop} {a2 : Int32} {a3 : Int32} {a4 : Int32} {z : tq_S} (hB4 : ∀ (b2 : Int32) (b3 : Int32) (z : tq_S), B4 b2 b3 z → tq_T K 3 x mm_X2_squareOf 4 [.ref 8, .null, .int b2, .int b3, .null] [] z Q) (h : wc_X2_squareOf_22 B4 Q a2 a3 a4 z) : tq_T K 3 x mm_X2_squareOf 22 [.ref 8, .null, .int a2, .int a3, .int a4] [] z Q :=
  tq_lp_T (σ := Int32 × Int32 × tq_S) (s := (a2, a4, z)) (G := fun s => tq_T K 3 x mm_X2_squareOf 22 [.ref 8, .null, .int s.1, .int a3, .int s.2.1] [] s.2.2 Q) (fun B hB s h => ab_X2_squareOf_22 hB4 (fun b2 b4 z h => hB (b2, b4, z) h) h) h
def wb_X2_squareOf_4 (B4 : Int32 → Int32 → tq_S → Prop) (Q : tq_O → tq_S → Prop) (a2 : Int32) (a3 : Int32) (z : tq_S) : Prop := (((tq_fi z 65) ≤ a3 → Q (.inl (some (.int (-1 : Int32)))) z) ∧ (¬ (tq_fi z 65) ≤ a3 → ((a2 < 0 → Q (.inl (some (.int (-1 : Int32)))) z) ∧ (¬ a2 < 0 → wc_X2_squareOf_22 B4 Q a2 a3 (0 : Int32) z))))
def wc_X2_squareOf_4 (Q : tq_O → tq_S → Prop) (a2 : Int32) (a3 : Int32) (z : tq_S) : Prop := tq_lp (σ := Int32 × Int32 × tq_S) (fun B s => wb_X2_squareOf_4 (fun b2 b3 z => B (b2, b3, z)) Q s.1 s.2.1 s.2.2) (a2, a3, z)
theorem ab_X2_squareOf_4 {K : Nat × (Nat → Int32)} {x : Nat} {Q : tq_O → tq_S → Prop} {B4 : Int32 → Int32 → tq_S → Prop} {a2 : Int32} {a3 : Int32} {z : tq_S} (hB4 : ∀ (b2 : Int32) (b3 : Int32) (z : tq_S), B4 b2 b3 z → tq_T K 3 x mm_X2_squareOf 4 [.ref 8, .null, .int b2, .int b3, .null] [] z Q) (h : wb_X2_squareOf_4 B4 Q a2 a3 z) : tq_T K 3 x mm_X2_squareOf 4 [.ref 8, .null, .int a2, .int a3, .null] [] z Q := by
  unfold wb_X2_squareOf_4 at h
  refine tq_s_iload_n (kk := 3) (by decide +kernel) rfl ?_
  refine tq_s_aload_n (kk := 0) (by decide +kernel) rfl ?_
  refine fg_2_7_8 rfl (by decide +kernel) ?_
  refine fg_2_65_1 rfl (by decide +kernel) ?_
  refine tq_icmp_ge (off := 59) (tgt := 71) (by decide +kernel) (by decide +kernel) (fun hc => ?_) (fun hc => ?_)
  · replace h := h.1 hc
    refine tq_k_ic (n := -1) (v := (-1 : Int32)) (by decide +kernel) kc_m1 ?_
    exact tq_ret_i (st := []) (by decide +kernel) rfl h
  · replace h := h.2 hc
    refine tq_s_iload_n (kk := 2) (by decide +kernel) rfl ?_
    refine tq_if_lt (off := 55) (tgt := 71) (by decide +kernel) (by decide +kernel) (fun hc => ?_) (fun hc => ?_)
    · replace h := h.1 hc
      refine tq_k_ic (n := -1) (v := (-1 : Int32)) (by decide +kernel) kc_m1 ?_
      exact tq_ret_i (st := []) (by decide +kernel) rfl h
    · replace h := h.2 hc
      refine tq_k_ic (n := 0) (v := (0 : Int32)) (by decide +kernel) kc_0 ?_
      refine tq_s_istore (i := 4) (L9 := [.ref 8, .null, .int a2, .int a3, .int (0 : Int32)]) (by decide +kernel) (by decide) rfl ?_
      exact ac_X2_squareOf_22 hB4 h
theorem ac_X2_squareOf_4 {K : Nat × (Nat → Int32)} {x : Nat} {Q : tq_O → tq_S → Prop} {a2 : Int32} {a3 : Int32} {z : tq_S} (h : wc_X2_squareOf_4 Q a2 a3 z) : tq_T K 3 x mm_X2_squareOf 4 [.ref 8, .null, .int a2, .int a3, .null] [] z Q :=
  tq_lp_T (σ := Int32 × Int32 × tq_S) (s := (a2, a3, z)) (G := fun s => tq_T K 3 x mm_X2_squareOf 4 [.ref 8, .null, .int s.1, .int s.2.1, .null] [] s.2.2 Q) (fun B hB s h => ab_X2_squareOf_4 (fun b2 b3 z h => hB (b2, b3, z) h) h) h
def wm_X2_squareOf (a1 : Int32) (z : tq_S) (Q : tq_O → tq_S → Prop) : Prop := wc_X2_squareOf_4 Q a1 (0 : Int32) z
theorem am_X2_squareOf {K : Nat × (Nat → Int32)} {x : Nat} {z : tq_S} {Q : tq_O → tq_S → Prop} {a1 : Int32} (h : wm_X2_squareOf a1 z Q) : tq_M K 3 x mm_X2_squareOf [.ref 8, .int a1] z Q := by
  unfold wm_X2_squareOf at h
  refine tq_enter (L := [.ref 8, .int a1, .null, .null, .null]) mf_X2_squareOf.1 rfl rfl (Nat.le_of_ble_eq_true rfl) ?_
  refine tq_s_iload_n (kk := 1) (by decide +kernel) rfl ?_
  refine tq_s_istore_n (kk := 2) (L9 := [.ref 8, .int a1, .int a1, .null, .null]) (by decide +kernel) (by decide) rfl ?_
  refine tq_k_ic (n := 0) (v := (0 : Int32)) (by decide +kernel) kc_0 ?_
  refine tq_s_istore_n (kk := 3) (L9 := [.ref 8, .int a1, .int a1, .int (0 : Int32), .null]) (by decide +kernel) (by decide) rfl ?_
  exact tq_to (tq_lk1 (tq_ld1 (tq_lk1 (tq_lk1 (tq_lk1 tq_l0))))) (ac_X2_squareOf_4 h)
def wm_X2_rightFlipped (a1 : Int32) (z : tq_S) (Q : tq_O → tq_S → Prop) : Prop := wm_X2_acrossPair (a1 - a1 / (8 : Int32) * (8 : Int32)) (a1 / (8 : Int32)) z (tq_wl fun r2 z1 => Q (.inl (some (.long ((tq_fl z 517) ^^^ r2)))) z1)
theorem am_X2_rightFlipped {K : Nat × (Nat → Int32)} {x : Nat} {z : tq_S} {Q : tq_O → tq_S → Prop} {a1 : Int32} (h : wm_X2_rightFlipped a1 z Q) : tq_M K 2 x mm_X2_rightFlipped [.ref 8, .int a1] z Q := by
  unfold wm_X2_rightFlipped at h
  refine tq_enter (L := [.ref 8, .int a1]) mf_X2_rightFlipped.1 rfl rfl (Nat.le_of_ble_eq_true rfl) ?_
  refine tq_s_aload_n (kk := 0) (by decide +kernel) rfl ?_
  refine fg_2_35_8 rfl (by decide +kernel) ?_
  refine tq_s_aload_n (kk := 0) (by decide +kernel) rfl ?_
  refine tq_s_iload_n (kk := 1) (by decide +kernel) rfl ?_
  refine tq_k_bi (n := 8) (v := (8 : Int32)) (by decide +kernel) kb_8 ?_
  refine tq_s_irem (by decide +kernel) (by decide +kernel) ?_
  refine tq_s_iload_n (kk := 1) (by decide +kernel) rfl ?_
  refine tq_k_bi (n := 8) (v := (8 : Int32)) (by decide +kernel) kb_8 ?_
  refine tq_s_idiv (by decide +kernel) (by decide +kernel) ?_
  refine tq_callV (as := [.int (a1 - a1 / (8 : Int32) * (8 : Int32)), .int (a1 / (8 : Int32))]) (st := [.long (tq_fl z 517)]) (d1 := 1) (x1 := 0) (x2 := x) (by decide +kernel) ln_2_74 mf_X2_acrossPair rfl sh_8 rfl (by decide) np_X2_acrossPair rfl (Nat.le_of_ble_eq_true rfl) (by decide) (Nat.zero_add _).symm (tq_M_mono (am_X2_acrossPair h) ?_)
  refine tq_wl_e (fun r2 z1 h => ?_)
  refine tq_s_lxor (by decide +kernel) ?_
  exact tq_ret_l (st := []) (by decide +kernel) rfl h
def wm_X2_downFlipped (a1 : Int32) (z : tq_S) (Q : tq_O → tq_S → Prop) : Prop := wm_X2_downPair (a1 - a1 / (8 : Int32) * (8 : Int32)) (a1 / (8 : Int32)) z (tq_wl fun r2 z1 => Q (.inl (some (.long ((tq_fl z 518) ^^^ r2)))) z1)
theorem am_X2_downFlipped {K : Nat × (Nat → Int32)} {x : Nat} {z : tq_S} {Q : tq_O → tq_S → Prop} {a1 : Int32} (h : wm_X2_downFlipped a1 z Q) : tq_M K 2 x mm_X2_downFlipped [.ref 8, .int a1] z Q := by
  unfold wm_X2_downFlipped at h
  refine tq_enter (L := [.ref 8, .int a1]) mf_X2_downFlipped.1 rfl rfl (Nat.le_of_ble_eq_true rfl) ?_
  refine tq_s_aload_n (kk := 0) (by decide +kernel) rfl ?_
  refine fg_2_39_8 rfl (by decide +kernel) ?_
  refine tq_s_aload_n (kk := 0) (by decide +kernel) rfl ?_
  refine tq_s_iload_n (kk := 1) (by decide +kernel) rfl ?_
  refine tq_k_bi (n := 8) (v := (8 : Int32)) (by decide +kernel) kb_8 ?_
  refine tq_s_irem (by decide +kernel) (by decide +kernel) ?_
  refine tq_s_iload_n (kk := 1) (by decide +kernel) rfl ?_
  refine tq_k_bi (n := 8) (v := (8 : Int32)) (by decide +kernel) kb_8 ?_
  refine tq_s_idiv (by decide +kernel) (by decide +kernel) ?_
  refine tq_callV (as := [.int (a1 - a1 / (8 : Int32) * (8 : Int32)), .int (a1 / (8 : Int32))]) (st := [.long (tq_fl z 518)]) (d1 := 1) (x1 := 0) (x2 := x) (by decide +kernel) ln_2_77 mf_X2_downPair rfl sh_8 rfl (by decide) np_X2_downPair rfl (Nat.le_of_ble_eq_true rfl) (by decide) (Nat.zero_add _).symm (tq_M_mono (am_X2_downPair h) ?_)
  refine tq_wl_e (fun r2 z1 h => ?_)
  refine tq_s_lxor (by decide +kernel) ?_
  exact tq_ret_l (st := []) (by decide +kernel) rfl h
def wm_X11_flip (a1 : Int32) (z : tq_S) (Q : tq_O → tq_S → Prop) : Prop := ((¬ (tq_fi z 516) = 0 → wm_X2_squareOf a1 z (tq_wi fun r2 z1 => ((0 ≤ r2 → wm_X2_rightFlipped r2 z1 (tq_wl fun r4 z3 => wm_X2_downFlipped r2 z3 (tq_wl fun r6 z5 => wm_X2_take r4 r6 z5 (tq_wv fun z7 => wm_X2_countFlips z7 (tq_wi fun r9 z8 => Q (.inl (some (.int r9))) z8))))) ∧ (¬ 0 ≤ r2 → Q (.inr 3) z1)))) ∧ ((tq_fi z 516) = 0 → Q (.inr 5) z))
theorem am_X11_flip {K : Nat × (Nat → Int32)} {z : tq_S} {Q : tq_O → tq_S → Prop} {a1 : Int32} (h : wm_X11_flip a1 z Q) : tq_M K 4 1 mm_X11_flip [.ref 0, .int a1] z Q := by
  unfold wm_X11_flip at h
  refine tq_enter (L := [.ref 0, .int a1, .null]) mf_X11_flip.1 rfl rfl (Nat.le_of_ble_eq_true rfl) ?_
  refine tq_s_aload_n (kk := 0) (by decide +kernel) rfl ?_
  refine fg_11_28_0 rfl (by decide +kernel) ?_
  refine fg_11_238_8 rfl (by decide +kernel) ?_
  refine tq_if_ne (off := 13) (tgt := 20) (by decide +kernel) (by decide +kernel) (fun hc => ?_) (fun hc => ?_)
  · replace h := h.1 hc
    refine tq_s_aload_n (kk := 0) (by decide +kernel) rfl ?_
    refine fg_11_28_0 rfl (by decide +kernel) ?_
    refine tq_s_iload_n (kk := 1) (by decide +kernel) rfl ?_
    refine tq_callVN (as := [.int a1]) (st := []) (d1 := 3) (x1 := 0) (x2 := 1) (by decide +kernel) ln_11_259 mf_X2_squareOf rfl sh_8 rfl (by decide) np_X2_squareOf rfl (Nat.le_of_ble_eq_true rfl) (by decide) (Nat.zero_add _).symm (tq_M_mono (am_X2_squareOf h) ?_)
    refine tq_wi_e (fun r2 z1 h => ?_)
    refine tq_s_istore_n (kk := 2) (L9 := [.ref 0, .int a1, .int r2]) (by decide +kernel) (by decide) rfl ?_
    refine tq_s_iload_n (kk := 2) (by decide +kernel) rfl ?_
    refine tq_if_ge (off := 14) (tgt := 44) (by decide +kernel) (by decide +kernel) (fun hc => ?_) (fun hc => ?_)
    · replace h := h.1 hc
      refine tq_s_aload_n (kk := 0) (by decide +kernel) rfl ?_
      refine fg_11_28_0 rfl (by decide +kernel) ?_
      refine tq_s_aload_n (kk := 0) (by decide +kernel) rfl ?_
      refine fg_11_28_0 rfl (by decide +kernel) ?_
      refine tq_s_iload_n (kk := 2) (by decide +kernel) rfl ?_
      refine tq_callVN (as := [.int r2]) (st := [.ref 8]) (d1 := 2) (x1 := 0) (x2 := 1) (by decide +kernel) ln_11_265 mf_X2_rightFlipped rfl sh_8 rfl (by decide) np_X2_rightFlipped rfl (Nat.le_of_ble_eq_true rfl) (by decide) (Nat.zero_add _).symm (tq_M_mono (am_X2_rightFlipped h) ?_)
      refine tq_wl_e (fun r4 z3 h => ?_)
      refine tq_s_aload_n (kk := 0) (by decide +kernel) rfl ?_
      refine fg_11_28_0 rfl (by decide +kernel) ?_
      refine tq_s_iload_n (kk := 2) (by decide +kernel) rfl ?_
      refine tq_callVN (as := [.int r2]) (st := [.long r4, .ref 8]) (d1 := 2) (x1 := 0) (x2 := 1) (by decide +kernel) ln_11_269 mf_X2_downFlipped rfl sh_8 rfl (by decide) np_X2_downFlipped rfl (Nat.le_of_ble_eq_true rfl) (by decide) (Nat.zero_add _).symm (tq_M_mono (am_X2_downFlipped h) ?_)
      refine tq_wl_e (fun r6 z5 h => ?_)
      refine tq_callVN (as := [.long r4, .long r6]) (st := []) (d1 := 1) (x1 := 0) (x2 := 1) (by decide +kernel) ln_11_272 mf_X2_take rfl sh_8 rfl (by decide) np_X2_take rfl (Nat.le_of_ble_eq_true rfl) (by decide) (Nat.zero_add _).symm (tq_M_mono (am_X2_take h) ?_)
      refine tq_wv_e (fun z7 h => ?_)
      refine tq_s_aload_n (kk := 0) (by decide +kernel) rfl ?_
      refine fg_11_28_0 rfl (by decide +kernel) ?_
      refine tq_callVN (as := []) (st := []) (d1 := 3) (x1 := 0) (x2 := 1) (by decide +kernel) ln_11_256 mf_X2_countFlips rfl sh_8 rfl (by decide) np_X2_countFlips rfl (Nat.le_of_ble_eq_true rfl) (by decide) (Nat.zero_add _).symm (tq_M_mono (am_X2_countFlips h) ?_)
      refine tq_wi_e (fun r9 z8 h => ?_)
      exact tq_ret_i (st := []) (by decide +kernel) rfl h
    · replace h := h.2 hc
      exact tq_throwSW th_11_141_263 rfl (by decide +kernel) (by decide +kernel) (by decide +kernel) (by decide +kernel) (by decide +kernel) (Nat.le_of_ble_eq_true rfl) rfl (Nat.le_refl 1) h
  · replace h := h.2 hc
    exact tq_throwN th_11_223_241 rfl (by decide +kernel) (by decide +kernel) (by decide +kernel) (by decide +kernel) (by decide +kernel) (Nat.le_of_ble_eq_true rfl) rfl (Nat.le_refl 1) h
def wm_X2_takeBack  (z : tq_S) (Q : tq_O → tq_S → Prop) : Prop := (((tq_fi z 522) ≤ 0 → Q (.inl none) z) ∧ (¬ (tq_fi z 522) ≤ 0 → ∀ z1 : tq_S, z1 = tq_sfi z 522 ((tq_fi z 522) - (1 : Int32)) → vp_in (tq_fi z1 522) 10 ∧ ∀ z2 : tq_S, z2 = tq_sfl z1 517 (tq_al z1 9 (Int32.toNatClampNeg (tq_fi z1 522))) → vp_in (tq_fi z2 522) 10 ∧ ∀ z3 : tq_S, z3 = tq_sfl z2 518 (tq_al z2 10 (Int32.toNatClampNeg (tq_fi z2 522))) → vp_in (tq_fi z3 522) 10 ∧ tq_nz (tq_ai z3 11 (Int32.toNatClampNeg (tq_fi z3 522))) ∧ ∀ z4 : tq_S, z4 = tq_sfi z3 516 (tq_ai z3 11 (Int32.toNatClampNeg (tq_fi z3 522))) → Q (.inl none) z4))
theorem am_X2_takeBack {K : Nat × (Nat → Int32)} {x : Nat} {z : tq_S} {Q : tq_O → tq_S → Prop}  (h : wm_X2_takeBack z Q) : tq_M K 0 x mm_X2_takeBack [.ref 8] z Q := by
  unfold wm_X2_takeBack at h
  refine tq_enter (L := [.ref 8]) mf_X2_takeBack.1 rfl rfl (Nat.le_of_ble_eq_true rfl) ?_
  refine tq_s_aload_n (kk := 0) (by decide +kernel) rfl ?_
  refine fg_2_24_8 rfl (by decide +kernel) ?_
  refine tq_if_le (off := 52) (tgt := 56) (by decide +kernel) (by decide +kernel) (fun hc => ?_) (fun hc => ?_)
  · replace h := h.1 hc
    exact tq_ret_v (st := []) (by decide +kernel) rfl h
  · replace h := h.2 hc
    refine tq_s_aload_n (kk := 0) (by decide +kernel) rfl ?_
    refine tq_s_dup (by decide +kernel) rfl ?_
    refine fg_2_24_8 rfl (by decide +kernel) ?_
    refine tq_k_ic (n := 1) (v := (1 : Int32)) (by decide +kernel) kc_1 ?_
    refine tq_s_isub (by decide +kernel) ?_
    refine fp_2_24_8 rfl (by decide +kernel) (fun z1 ez1 => ?_)
    replace h := h z1 ez1
    refine tq_s_aload_n (kk := 0) (by decide +kernel) rfl ?_
    refine tq_s_aload_n (kk := 0) (by decide +kernel) rfl ?_
    refine fg_2_13_8 rfl (by decide +kernel) ?_
    refine tq_s_aload_n (kk := 0) (by decide +kernel) rfl ?_
    refine fg_2_24_8 rfl (by decide +kernel) ?_
    refine tq_s_lald (by decide +kernel) sh_9 h.1 ?_
    replace h := h.2
    refine fp_2_35_8 rfl (by decide +kernel) (fun z2 ez2 => ?_)
    replace h := h z2 ez2
    refine tq_s_aload_n (kk := 0) (by decide +kernel) rfl ?_
    refine tq_s_aload_n (kk := 0) (by decide +kernel) rfl ?_
    refine fg_2_17_8 rfl (by decide +kernel) ?_
    refine tq_s_aload_n (kk := 0) (by decide +kernel) rfl ?_
    refine fg_2_24_8 rfl (by decide +kernel) ?_
    refine tq_s_lald (by decide +kernel) sh_10 h.1 ?_
    replace h := h.2
    refine fp_2_39_8 rfl (by decide +kernel) (fun z3 ez3 => ?_)
    replace h := h z3 ez3
    refine tq_s_aload_n (kk := 0) (by decide +kernel) rfl ?_
    refine tq_s_aload_n (kk := 0) (by decide +kernel) rfl ?_
    refine fg_2_20_8 rfl (by decide +kernel) ?_
    refine tq_s_aload_n (kk := 0) (by decide +kernel) rfl ?_
    refine fg_2_24_8 rfl (by decide +kernel) ?_
    refine tq_s_zald (by decide +kernel) sh_11 h.1 ?_
    replace h := h.2
    refine fp_2_28_8 rfl (by decide +kernel) (tq_nz_f h.1) (fun z4 ez4 => ?_)
    replace h := h.2 z4 ez4
    exact tq_ret_v (st := []) (by decide +kernel) rfl h
def wm_X11_undo  (z : tq_S) (Q : tq_O → tq_S → Prop) : Prop := ((¬ (tq_fi z 522) = 0 → wm_X2_takeBack z (tq_wv fun z1 => Q (.inl (some (.int (tq_fi z1 522)))) z1)) ∧ ((tq_fi z 522) = 0 → Q (.inr 2) z))
theorem am_X11_undo {K : Nat × (Nat → Int32)} {z : tq_S} {Q : tq_O → tq_S → Prop}  (h : wm_X11_undo z Q) : tq_M K 1 1 mm_X11_undo [.ref 0] z Q := by
  unfold wm_X11_undo at h
  refine tq_enter (L := [.ref 0]) mf_X11_undo.1 rfl rfl (Nat.le_of_ble_eq_true rfl) ?_
  refine tq_s_aload_n (kk := 0) (by decide +kernel) rfl ?_
  refine fg_11_28_0 rfl (by decide +kernel) ?_
  refine fg_11_276_8 rfl (by decide +kernel) ?_
  refine tq_if_ne (off := 14) (tgt := 21) (by decide +kernel) (by decide +kernel) (fun hc => ?_) (fun hc => ?_)
  · replace h := h.1 hc
    refine tq_s_aload_n (kk := 0) (by decide +kernel) rfl ?_
    refine fg_11_28_0 rfl (by decide +kernel) ?_
    refine tq_callVN (as := []) (st := []) (d1 := 0) (x1 := 0) (x2 := 1) (by decide +kernel) ln_11_284 mf_X2_takeBack rfl sh_8 rfl (by decide) np_X2_takeBack rfl (Nat.le_of_ble_eq_true rfl) (by decide) (Nat.zero_add _).symm (tq_M_mono (am_X2_takeBack h) ?_)
    refine tq_wv_e (fun z1 h => ?_)
    refine tq_s_aload_n (kk := 0) (by decide +kernel) rfl ?_
    refine fg_11_28_0 rfl (by decide +kernel) ?_
    refine fg_11_276_8 rfl (by decide +kernel) ?_
    exact tq_ret_i (st := []) (by decide +kernel) rfl h
  · replace h := h.2 hc
    exact tq_throwSW th_11_279_281 rfl (by decide +kernel) (by decide +kernel) (by decide +kernel) (by decide +kernel) (by decide +kernel) (Nat.le_of_ble_eq_true rfl) rfl (Nat.le_refl 1) h
def wm_X2_store  (z : tq_S) (Q : tq_O → tq_S → Prop) : Prop := ∀ z1 : tq_S, z1 = tq_sfl z 520 (tq_fl z 517) → ∀ z2 : tq_S, z2 = tq_sfl z1 521 (tq_fl z1 518) → ∀ z3 : tq_S, z3 = tq_sfi z2 519 (1 : Int32) → Q (.inl none) z3
theorem am_X2_store {K : Nat × (Nat → Int32)} {x : Nat} {z : tq_S} {Q : tq_O → tq_S → Prop}  (h : wm_X2_store z Q) : tq_M K 0 x mm_X2_store [.ref 8] z Q := by
  unfold wm_X2_store at h
  refine tq_enter (L := [.ref 8]) mf_X2_store.1 rfl rfl (Nat.le_of_ble_eq_true rfl) ?_
  refine tq_s_aload_n (kk := 0) (by decide +kernel) rfl ?_
  refine tq_s_aload_n (kk := 0) (by decide +kernel) rfl ?_
  refine fg_2_35_8 rfl (by decide +kernel) ?_
  refine fp_2_45_8 rfl (by decide +kernel) (fun z1 ez1 => ?_)
  replace h := h z1 ez1
  refine tq_s_aload_n (kk := 0) (by decide +kernel) rfl ?_
  refine tq_s_aload_n (kk := 0) (by decide +kernel) rfl ?_
  refine fg_2_39_8 rfl (by decide +kernel) ?_
  refine fp_2_48_8 rfl (by decide +kernel) (fun z2 ez2 => ?_)
  replace h := h z2 ez2
  refine tq_s_aload_n (kk := 0) (by decide +kernel) rfl ?_
  refine tq_k_ic (n := 1) (v := (1 : Int32)) (by decide +kernel) kc_1 ?_
  refine fp_2_32_8 rfl (by decide +kernel) ⟨by decide +kernel, by decide +kernel⟩ (fun z3 ez3 => ?_)
  replace h := h z3 ez3
  exact tq_ret_v (st := []) (by decide +kernel) rfl h
def wc_X2_countCuts_60 (B34 : Int32 → Int32 → tq_S → Prop) (Q : tq_O → tq_S → Prop) (a2 : Int32) (a3 : Int32) (s0 : Int32) (s1 : Int32) (z : tq_S) : Prop := ∀ v101 : Int32, v101 = (s1 + s0) → ∀ v102 : Int32, v102 = a3 + (1 : Int32) → B34 v101 v102 z
theorem ac_X2_countCuts_60 {K : Nat × (Nat → Int32)} {x : Nat} {Q : tq_O → tq_S → Prop} {B34 : Int32 → Int32 → tq_S → Prop} {a2 : Int32} {a3 : Int32} {s0 : Int32} {s1 : Int32} {z : tq_S} (hB34 : ∀ (b1 : Int32) (b3 : Int32) (z : tq_S), B34 b1 b3 z → tq_T K 0 x mm_X2_countCuts 34 [.ref 8, .int b1, .int a2, .int b3] [] z Q) (h : wc_X2_countCuts_60 B34 Q a2 a3 s0 s1 z) : tq_T K 0 x mm_X2_countCuts 60 [.ref 8, .null, .int a2, .int a3] [.int s0, .int s1] z Q := by
  unfold wc_X2_countCuts_60 at h
  refine tq_s_iadd (by decide +kernel) ?_
  refine tq_g_istore_n (kk := 1) (fun v101 => [.ref 8, .int v101, .int a2, .int a3]) (by decide +kernel) (by decide) (fun _ => rfl) (fun v101 ev101 => ?_)
  replace h := h v101 ev101
  refine tq_g_iinc (i := 3) (fun v102 => [.ref 8, .int v101, .int a2, .int v102]) (by decide +kernel) rfl (1 : Int32) kc_1 (fun _ => rfl) (fun v102 ev102 => ?_)
  replace h := h v102 ev102
  refine tq_s_goto (off := -31) (tgt := 34) (by decide +kernel) (by decide +kernel) ?_
  exact hB34 _ _ _ h
def wc_X2_countCuts_107 (B70 : Int32 → Int32 → tq_S → Prop) (Q : tq_O → tq_S → Prop) (a3 : Int32) (s0 : Int32) (s1 : Int32) (z : tq_S) : Prop := ∀ v101 : Int32, v101 = (s1 + s0) → ∀ v102 : Int32, v102 = a3 + (1 : Int32) → B70 v101 v102 z
theorem ac_X2_countCuts_107 {K : Nat × (Nat → Int32)} {x : Nat} {Q : tq_O → tq_S → Prop} {B70 : Int32 → Int32 → tq_S → Prop} {a3 : Int32} {s0 : Int32} {s1 : Int32} {z : tq_S} (hB70 : ∀ (b1 : Int32) (b3 : Int32) (z : tq_S), B70 b1 b3 z → tq_T K 0 x mm_X2_countCuts 70 [.ref 8, .int b1, .null, .int b3] [] z Q) (h : wc_X2_countCuts_107 B70 Q a3 s0 s1 z) : tq_T K 0 x mm_X2_countCuts 107 [.ref 8, .null, .null, .int a3] [.int s0, .int s1] z Q := by
  unfold wc_X2_countCuts_107 at h
  refine tq_s_iadd (by decide +kernel) ?_
  refine tq_g_istore_n (kk := 1) (fun v101 => [.ref 8, .int v101, .null, .int a3]) (by decide +kernel) (by decide) (fun _ => rfl) (fun v101 ev101 => ?_)
  replace h := h v101 ev101
  refine tq_g_iinc (i := 3) (fun v102 => [.ref 8, .int v101, .null, .int v102]) (by decide +kernel) rfl (1 : Int32) kc_1 (fun _ => rfl) (fun v102 ev102 => ?_)
  replace h := h v102 ev102
  refine tq_s_goto (off := -42) (tgt := 70) (by decide +kernel) (by decide +kernel) ?_
  exact hB70 _ _ _ h
def wb_X2_countCuts_70 (B70 : Int32 → Int32 → tq_S → Prop) (Q : tq_O → tq_S → Prop) (a1 : Int32) (a3 : Int32) (z : tq_S) : Prop := (((tq_fi z 65) ≤ (a3 + (1 : Int32)) → Q (.inl (some (.int a1))) z) ∧ (¬ (tq_fi z 65) ≤ (a3 + (1 : Int32)) → ((¬ ((tq_fl z 518) &&& ((255 : Int64) <<< ((Int32.toInt64 ((8 : Int32) * a3)) &&& 63))) = (0 : Int64) → wc_X2_countCuts_107 B70 Q a3 (0 : Int32) a1 z) ∧ (((tq_fl z 518) &&& ((255 : Int64) <<< ((Int32.toInt64 ((8 : Int32) * a3)) &&& 63))) = (0 : Int64) → wc_X2_countCuts_107 B70 Q a3 (1 : Int32) a1 z))))
def wc_X2_countCuts_70 (Q : tq_O → tq_S → Prop) (a1 : Int32) (a3 : Int32) (z : tq_S) : Prop := tq_lp (σ := Int32 × Int32 × tq_S) (fun B s => wb_X2_countCuts_70 (fun b1 b3 z => B (b1, b3, z)) Q s.1 s.2.1 s.2.2) (a1, a3, z)
theorem ab_X2_countCuts_70 {K : Nat × (Nat → Int32)} {x : Nat} {Q : tq_O → tq_S → Prop} {B70 : Int32 → Int32 → tq_S → Prop} {a1 : Int32} {a3 : Int32} {z : tq_S} (hB70 : ∀ (b1 : Int32) (b3 : Int32) (z : tq_S), B70 b1 b3 z → tq_T K 0 x mm_X2_countCuts 70 [.ref 8, .int b1, .null, .int b3] [] z Q) (h : wb_X2_countCuts_70 B70 Q a1 a3 z) : tq_T K 0 x mm_X2_countCuts 70 [.ref 8, .int a1, .null, .int a3] [] z Q := by
  unfold wb_X2_countCuts_70 at h
  refine tq_s_iload_n (kk := 3) (by decide +kernel) rfl ?_
  refine tq_k_ic (n := 1) (v := (1 : Int32)) (by decide +kernel) kc_1 ?_
  refine tq_s_iadd (by decide +kernel) ?_
  refine tq_s_aload_n (kk := 0) (by decide +kernel) rfl ?_
  refine fg_2_7_8 rfl (by decide +kernel) ?_
  refine fg_2_65_1 rfl (by decide +kernel) ?_
  refine tq_icmp_ge (off := 35) (tgt := 115) (by decide +kernel) (by decide +kernel) (fun hc => ?_) (fun hc => ?_)
  · replace h := h.1 hc
    refine tq_s_iload_n (kk := 1) (by decide +kernel) rfl ?_
    exact tq_ret_i (st := []) (by decide +kernel) rfl h
  · replace h := h.2 hc
    refine tq_s_iload_n (kk := 1) (by decide +kernel) rfl ?_
    refine tq_s_aload_n (kk := 0) (by decide +kernel) rfl ?_
    refine fg_2_39_8 rfl (by decide +kernel) ?_
    refine tq_s_ldc2 (i := 68) (v := (255 : Int64)) (by decide +kernel) (by decide +kernel) ?_
    refine tq_k_bi (n := 8) (v := (8 : Int32)) (by decide +kernel) kb_8 ?_
    refine tq_s_iload_n (kk := 3) (by decide +kernel) rfl ?_
    refine tq_s_imul (by decide +kernel) ?_
    refine tq_s_lshl (by decide +kernel) ?_
    refine tq_s_land (by decide +kernel) ?_
    refine tq_k_lc (n := 0) (v := (0 : Int64)) (by decide +kernel) (by decide +kernel) ?_
    refine tq_lcmp_ne (off := 7) (tgt := 106) (by decide +kernel) (by decide +kernel) (by decide +kernel) (fun hc => ?_) (fun hc => ?_)
    · replace h := h.1 hc
      refine tq_k_ic (n := 0) (v := (0 : Int32)) (by decide +kernel) kc_0 ?_
      exact tq_to (tq_lk1 (tq_ld1 (tq_lk1 (tq_lk1 tq_l0)))) (ac_X2_countCuts_107 hB70 h)
    · replace h := h.2 hc
      refine tq_k_ic (n := 1) (v := (1 : Int32)) (by decide +kernel) kc_1 ?_
      refine tq_s_goto (off := 4) (tgt := 107) (by decide +kernel) (by decide +kernel) ?_
      exact tq_to (tq_lk1 (tq_ld1 (tq_lk1 (tq_lk1 tq_l0)))) (ac_X2_countCuts_107 hB70 h)
theorem ac_X2_countCuts_70 {K : Nat × (Nat → Int32)} {x : Nat} {Q : tq_O → tq_S → Prop} {a1 : Int32} {a3 : Int32} {z : tq_S} (h : wc_X2_countCuts_70 Q a1 a3 z) : tq_T K 0 x mm_X2_countCuts 70 [.ref 8, .int a1, .null, .int a3] [] z Q :=
  tq_lp_T (σ := Int32 × Int32 × tq_S) (s := (a1, a3, z)) (G := fun s => tq_T K 0 x mm_X2_countCuts 70 [.ref 8, .int s.1, .null, .int s.2.1] [] s.2.2 Q) (fun B hB s h => ab_X2_countCuts_70 (fun b1 b3 z h => hB (b1, b3, z) h) h) h
def wc_X2_countCuts_68 (Q : tq_O → tq_S → Prop) (a1 : Int32) (z : tq_S) : Prop := wc_X2_countCuts_70 Q a1 (0 : Int32) z
theorem ac_X2_countCuts_68 {K : Nat × (Nat → Int32)} {x : Nat} {Q : tq_O → tq_S → Prop} {a1 : Int32} {z : tq_S} (h : wc_X2_countCuts_68 Q a1 z) : tq_T K 0 x mm_X2_countCuts 68 [.ref 8, .int a1, .null, .null] [] z Q := by
  unfold wc_X2_countCuts_68 at h
  refine tq_k_ic (n := 0) (v := (0 : Int32)) (by decide +kernel) kc_0 ?_
  refine tq_s_istore_n (kk := 3) (L9 := [.ref 8, .int a1, .null, .int (0 : Int32)]) (by decide +kernel) (by decide) rfl ?_
  exact ac_X2_countCuts_70 h
def wb_X2_countCuts_34 (B34 : Int32 → Int32 → tq_S → Prop) (Q : tq_O → tq_S → Prop) (a1 : Int32) (a2 : Int32) (a3 : Int32) (z : tq_S) : Prop := ((a2 ≤ a3 → wc_X2_countCuts_68 Q a1 z) ∧ (¬ a2 ≤ a3 → ((¬ ((tq_fl z 517) &&& ((72340172838076673 : Int64) <<< ((Int32.toInt64 a3) &&& 63))) = (0 : Int64) → wc_X2_countCuts_60 B34 Q a2 a3 (0 : Int32) a1 z) ∧ (((tq_fl z 517) &&& ((72340172838076673 : Int64) <<< ((Int32.toInt64 a3) &&& 63))) = (0 : Int64) → wc_X2_countCuts_60 B34 Q a2 a3 (1 : Int32) a1 z))))
def wc_X2_countCuts_34 (Q : tq_O → tq_S → Prop) (a1 : Int32) (a2 : Int32) (a3 : Int32) (z : tq_S) : Prop := tq_lp (σ := Int32 × Int32 × tq_S) (fun B s => wb_X2_countCuts_34 (fun b1 b3 z => B (b1, b3, z)) Q s.1 a2 s.2.1 s.2.2) (a1, a3, z)
theorem ab_X2_countCuts_34 {K : Nat × (Nat → Int32)} {x : Nat} {Q : tq_O → tq_S → Prop} {B34 : Int32 → Int32 → tq_S → Prop} {a1 : Int32} {a2 : Int32} {a3 : Int32} {z : tq_S} (hB34 : ∀ (b1 : Int32) (b3 : Int32) (z : tq_S), B34 b1 b3 z → tq_T K 0 x mm_X2_countCuts 34 [.ref 8, .int b1, .int a2, .int b3] [] z Q) (h : wb_X2_countCuts_34 B34 Q a1 a2 a3 z) : tq_T K 0 x mm_X2_countCuts 34 [.ref 8, .int a1, .int a2, .int a3] [] z Q := by
  unfold wb_X2_countCuts_34 at h
  refine tq_s_iload_n (kk := 3) (by decide +kernel) rfl ?_
  refine tq_s_iload_n (kk := 2) (by decide +kernel) rfl ?_
  refine tq_icmp_ge (off := 32) (tgt := 68) (by decide +kernel) (by decide +kernel) (fun hc => ?_) (fun hc => ?_)
  · replace h := h.1 hc
    exact tq_to (tq_lk1 (tq_lk1 (tq_ld1 (tq_ld1 tq_l0)))) (ac_X2_countCuts_68 h)
  · replace h := h.2 hc
    refine tq_s_iload_n (kk := 1) (by decide +kernel) rfl ?_
    refine tq_s_aload_n (kk := 0) (by decide +kernel) rfl ?_
    refine fg_2_35_8 rfl (by decide +kernel) ?_
    refine tq_s_ldc2 (i := 63) (v := (72340172838076673 : Int64)) (by decide +kernel) (by decide +kernel) ?_
    refine tq_s_iload_n (kk := 3) (by decide +kernel) rfl ?_
    refine tq_s_lshl (by decide +kernel) ?_
    refine tq_s_land (by decide +kernel) ?_
    refine tq_k_lc (n := 0) (v := (0 : Int64)) (by decide +kernel) (by decide +kernel) ?_
    refine tq_lcmp_ne (off := 7) (tgt := 59) (by decide +kernel) (by decide +kernel) (by decide +kernel) (fun hc => ?_) (fun hc => ?_)
    · replace h := h.1 hc
      refine tq_k_ic (n := 0) (v := (0 : Int32)) (by decide +kernel) kc_0 ?_
      exact tq_to (tq_lk1 (tq_ld1 (tq_lk1 (tq_lk1 tq_l0)))) (ac_X2_countCuts_60 hB34 h)
    · replace h := h.2 hc
      refine tq_k_ic (n := 1) (v := (1 : Int32)) (by decide +kernel) kc_1 ?_
      refine tq_s_goto (off := 4) (tgt := 60) (by decide +kernel) (by decide +kernel) ?_
      exact tq_to (tq_lk1 (tq_ld1 (tq_lk1 (tq_lk1 tq_l0)))) (ac_X2_countCuts_60 hB34 h)
theorem ac_X2_countCuts_34 {K : Nat × (Nat → Int32)} {x : Nat} {Q : tq_O → tq_S → Prop} {a1 : Int32} {a2 : Int32} {a3 : Int32} {z : tq_S} (h : wc_X2_countCuts_34 Q a1 a2 a3 z) : tq_T K 0 x mm_X2_countCuts 34 [.ref 8, .int a1, .int a2, .int a3] [] z Q :=
  tq_lp_T (σ := Int32 × Int32 × tq_S) (s := (a1, a3, z)) (G := fun s => tq_T K 0 x mm_X2_countCuts 34 [.ref 8, .int s.1, .int a2, .int s.2.1] [] s.2.2 Q) (fun B hB s h => ab_X2_countCuts_34 (fun b1 b3 z h => hB (b1, b3, z) h) h) h
def wc_X2_countCuts_31 (Q : tq_O → tq_S → Prop) (a1 : Int32) (s0 : Int32) (z : tq_S) : Prop := wc_X2_countCuts_34 Q a1 s0 (0 : Int32) z
theorem ac_X2_countCuts_31 {K : Nat × (Nat → Int32)} {x : Nat} {Q : tq_O → tq_S → Prop} {a1 : Int32} {s0 : Int32} {z : tq_S} (h : wc_X2_countCuts_31 Q a1 s0 z) : tq_T K 0 x mm_X2_countCuts 31 [.ref 8, .int a1, .null, .null] [.int s0] z Q := by
  unfold wc_X2_countCuts_31 at h
  refine tq_s_istore_n (kk := 2) (L9 := [.ref 8, .int a1, .int s0, .null]) (by decide +kernel) (by decide) rfl ?_
  refine tq_k_ic (n := 0) (v := (0 : Int32)) (by decide +kernel) kc_0 ?_
  refine tq_s_istore_n (kk := 3) (L9 := [.ref 8, .int a1, .int s0, .int (0 : Int32)]) (by decide +kernel) (by decide) rfl ?_
  exact ac_X2_countCuts_34 h
def wm_X2_countCuts  (z : tq_S) (Q : tq_O → tq_S → Prop) : Prop := (((tq_fi z 66) = 0 → wc_X2_countCuts_31 Q (0 : Int32) ((tq_fi z 64) - (1 : Int32)) z) ∧ (¬ (tq_fi z 66) = 0 → wc_X2_countCuts_31 Q (0 : Int32) (tq_fi z 64) z))
theorem am_X2_countCuts {K : Nat × (Nat → Int32)} {x : Nat} {z : tq_S} {Q : tq_O → tq_S → Prop}  (h : wm_X2_countCuts z Q) : tq_M K 0 x mm_X2_countCuts [.ref 8] z Q := by
  unfold wm_X2_countCuts at h
  refine tq_enter (L := [.ref 8, .null, .null, .null]) mf_X2_countCuts.1 rfl rfl (Nat.le_of_ble_eq_true rfl) ?_
  refine tq_k_ic (n := 0) (v := (0 : Int32)) (by decide +kernel) kc_0 ?_
  refine tq_s_istore_n (kk := 1) (L9 := [.ref 8, .int (0 : Int32), .null, .null]) (by decide +kernel) (by decide) rfl ?_
  refine tq_s_aload_n (kk := 0) (by decide +kernel) rfl ?_
  refine fg_2_7_8 rfl (by decide +kernel) ?_
  refine fg_2_60_1 rfl (by decide +kernel) ?_
  refine tq_if_eq (off := 13) (tgt := 22) (by decide +kernel) (by decide +kernel) (fun hc => ?_) (fun hc => ?_)
  · replace h := h.1 hc
    refine tq_s_aload_n (kk := 0) (by decide +kernel) rfl ?_
    refine fg_2_7_8 rfl (by decide +kernel) ?_
    refine fg_2_57_1 rfl (by decide +kernel) ?_
    refine tq_k_ic (n := 1) (v := (1 : Int32)) (by decide +kernel) kc_1 ?_
    refine tq_s_isub (by decide +kernel) ?_
    exact ac_X2_countCuts_31 h
  · replace h := h.2 hc
    refine tq_s_aload_n (kk := 0) (by decide +kernel) rfl ?_
    refine fg_2_7_8 rfl (by decide +kernel) ?_
    refine fg_2_57_1 rfl (by decide +kernel) ?_
    refine tq_s_goto (off := 12) (tgt := 31) (by decide +kernel) (by decide +kernel) ?_
    exact ac_X2_countCuts_31 h
def wm_X11_keep  (z : tq_S) (Q : tq_O → tq_S → Prop) : Prop := ((¬ (tq_fi z 516) = 0 → wm_X2_store z (tq_wv fun z1 => wm_X2_countCuts z1 (tq_wi fun r3 z2 => Q (.inl (some (.int r3))) z2))) ∧ ((tq_fi z 516) = 0 → Q (.inr 5) z))
theorem am_X11_keep {K : Nat × (Nat → Int32)} {z : tq_S} {Q : tq_O → tq_S → Prop}  (h : wm_X11_keep z Q) : tq_M K 1 1 mm_X11_keep [.ref 0] z Q := by
  unfold wm_X11_keep at h
  refine tq_enter (L := [.ref 0]) mf_X11_keep.1 rfl rfl (Nat.le_of_ble_eq_true rfl) ?_
  refine tq_s_aload_n (kk := 0) (by decide +kernel) rfl ?_
  refine fg_11_28_0 rfl (by decide +kernel) ?_
  refine fg_11_238_8 rfl (by decide +kernel) ?_
  refine tq_if_ne (off := 13) (tgt := 20) (by decide +kernel) (by decide +kernel) (fun hc => ?_) (fun hc => ?_)
  · replace h := h.1 hc
    refine tq_s_aload_n (kk := 0) (by decide +kernel) rfl ?_
    refine fg_11_28_0 rfl (by decide +kernel) ?_
    refine tq_callVN (as := []) (st := []) (d1 := 0) (x1 := 0) (x2 := 1) (by decide +kernel) ln_11_287 mf_X2_store rfl sh_8 rfl (by decide) np_X2_store rfl (Nat.le_of_ble_eq_true rfl) (by decide) (Nat.zero_add _).symm (tq_M_mono (am_X2_store h) ?_)
    refine tq_wv_e (fun z1 h => ?_)
    refine tq_s_aload_n (kk := 0) (by decide +kernel) rfl ?_
    refine fg_11_28_0 rfl (by decide +kernel) ?_
    refine tq_callVN (as := []) (st := []) (d1 := 0) (x1 := 0) (x2 := 1) (by decide +kernel) ln_11_290 mf_X2_countCuts rfl sh_8 rfl (by decide) np_X2_countCuts rfl (Nat.le_of_ble_eq_true rfl) (by decide) (Nat.zero_add _).symm (tq_M_mono (am_X2_countCuts h) ?_)
    refine tq_wi_e (fun r3 z2 h => ?_)
    exact tq_ret_i (st := []) (by decide +kernel) rfl h
  · replace h := h.2 hc
    exact tq_throwN th_11_223_241 rfl (by decide +kernel) (by decide +kernel) (by decide +kernel) (by decide +kernel) (by decide +kernel) (Nat.le_of_ble_eq_true rfl) rfl (Nat.le_refl 1) h
def wb_J7_fill_53178_5 (B5 : Int32 → tq_S → Prop) (Q : tq_O → tq_S → Prop) (a1 : Int32) (a2 : Int32) (a3 : Int32) (z : tq_S) : Prop := ((a3 ≤ a2 → Q (.inl none) z) ∧ (¬ a3 ≤ a2 → vp_in a2 81 ∧ ∀ z101 : tq_S, z101 = tq_sai z 14 (upd (tq_ai z 14) (Int32.toNatClampNeg a2) a1) → ∀ v102 : Int32, v102 = a2 + (1 : Int32) → B5 v102 z101))
def wc_J7_fill_53178_5 (Q : tq_O → tq_S → Prop) (a1 : Int32) (a2 : Int32) (a3 : Int32) (z : tq_S) : Prop := tq_lp (σ := Int32 × tq_S) (fun B s => wb_J7_fill_53178_5 (fun b2 z => B (b2, z)) Q a1 s.1 a3 s.2) (a2, z)
theorem ab_J7_fill_53178_5 {K : Nat × (Nat → Int32)} {x : Nat} {Q : tq_O → tq_S → Prop} {B5 : Int32 → tq_S → Prop} {a1 : Int32} {a2 : Int32} {a3 : Int32} {z : tq_S} (hB5 : ∀ (b2 : Int32) (z : tq_S), B5 b2 z → tq_T K 0 x mm_J7_fill_53178 5 [.ref 14, .int a1, .int b2, .int a3] [] z Q) (h : wb_J7_fill_53178_5 B5 Q a1 a2 a3 z) : tq_T K 0 x mm_J7_fill_53178 5 [.ref 14, .int a1, .int a2, .int a3] [] z Q := by
  unfold wb_J7_fill_53178_5 at h
  refine tq_s_iload_n (kk := 2) (by decide +kernel) rfl ?_
  refine tq_s_iload_n (kk := 3) (by decide +kernel) rfl ?_
  refine tq_icmp_ge (off := 13) (tgt := 20) (by decide +kernel) (by decide +kernel) (fun hc => ?_) (fun hc => ?_)
  · replace h := h.1 hc
    exact tq_ret_v (st := []) (by decide +kernel) rfl h
  · replace h := h.2 hc
    refine tq_s_aload_n (kk := 0) (by decide +kernel) rfl ?_
    refine tq_s_iload_n (kk := 2) (by decide +kernel) rfl ?_
    refine tq_s_iload_n (kk := 1) (by decide +kernel) rfl ?_
    refine tq_g_iast (by decide +kernel) sh_14 h.1 (fun z101 ez101 => ?_)
    replace h := h.2 z101 ez101
    refine tq_g_iinc (i := 2) (fun v102 => [.ref 14, .int a1, .int v102, .int a3]) (by decide +kernel) rfl (1 : Int32) kc_1 (fun _ => rfl) (fun v102 ev102 => ?_)
    replace h := h v102 ev102
    refine tq_s_goto (off := -12) (tgt := 5) (by decide +kernel) (by decide +kernel) ?_
    exact hB5 _ _ h
theorem ac_J7_fill_53178_5 {K : Nat × (Nat → Int32)} {x : Nat} {Q : tq_O → tq_S → Prop} {a1 : Int32} {a2 : Int32} {a3 : Int32} {z : tq_S} (h : wc_J7_fill_53178_5 Q a1 a2 a3 z) : tq_T K 0 x mm_J7_fill_53178 5 [.ref 14, .int a1, .int a2, .int a3] [] z Q :=
  tq_lp_T (σ := Int32 × tq_S) (s := (a2, z)) (G := fun s => tq_T K 0 x mm_J7_fill_53178 5 [.ref 14, .int a1, .int s.1, .int a3] [] s.2 Q) (fun B hB s h => ab_J7_fill_53178_5 (fun b2 z h => hB (b2, z) h) h) h
def wm_J7_fill_53178 (a1 : Int32) (z : tq_S) (Q : tq_O → tq_S → Prop) : Prop := ∀ v1 : Int32, v1 = (Int32.ofNat 81) → wc_J7_fill_53178_5 Q a1 (0 : Int32) v1 z
theorem am_J7_fill_53178 {K : Nat × (Nat → Int32)} {x : Nat} {z : tq_S} {Q : tq_O → tq_S → Prop} {a1 : Int32} (h : wm_J7_fill_53178 a1 z Q) : tq_M K 0 x mm_J7_fill_53178 [.ref 14, .int a1] z Q := by
  unfold wm_J7_fill_53178 at h
  refine tq_enter (L := [.ref 14, .int a1, .null, .null]) mf_J7_fill_53178.1 rfl rfl (Nat.le_of_ble_eq_true rfl) ?_
  refine tq_k_ic (n := 0) (v := (0 : Int32)) (by decide +kernel) kc_0 ?_
  refine tq_s_istore_n (kk := 2) (L9 := [.ref 14, .int a1, .int (0 : Int32), .null]) (by decide +kernel) (by decide) rfl ?_
  refine tq_s_aload_n (kk := 0) (by decide +kernel) rfl ?_
  refine tq_s_alen (by decide +kernel) sh_14 (by decide) ?_
  refine tq_g_istore_n (kk := 3) (fun v1 => [.ref 14, .int a1, .int (0 : Int32), .int v1]) (by decide +kernel) (by decide) (fun _ => rfl) (fun v1 ev1 => ?_)
  replace h := h v1 ev1
  exact ac_J7_fill_53178_5 h
def wm_X7_isCorner (a1 : Int32) (a2 : Int32) (z : tq_S) (Q : tq_O → tq_S → Prop) : Prop := ((a1 < 0 → Q (.inl (some (.int (0 : Int32)))) z) ∧ (¬ a1 < 0 → (((tq_fi z 64) < a1 → Q (.inl (some (.int (0 : Int32)))) z) ∧ (¬ (tq_fi z 64) < a1 → ((a2 < 0 → Q (.inl (some (.int (0 : Int32)))) z) ∧ (¬ a2 < 0 → ((a2 ≤ (tq_fi z 65) → wm_X1_holds a1 a2 z (tq_wi fun r2 z1 => ((¬ r2 = 0 → Q (.inl (some (.int (1 : Int32)))) z1) ∧ (r2 = 0 → wm_X1_holds (a1 - (1 : Int32)) a2 z1 (tq_wi fun r4 z3 => ((¬ r4 = 0 → Q (.inl (some (.int (1 : Int32)))) z3) ∧ (r4 = 0 → wm_X1_holds a1 (a2 - (1 : Int32)) z3 (tq_wi fun r6 z5 => ((¬ r6 = 0 → Q (.inl (some (.int (1 : Int32)))) z5) ∧ (r6 = 0 → wm_X1_holds (a1 - (1 : Int32)) (a2 - (1 : Int32)) z5 (tq_wi fun r8 z7 => ((r8 = 0 → Q (.inl (some (.int (0 : Int32)))) z7) ∧ (¬ r8 = 0 → Q (.inl (some (.int (1 : Int32)))) z7))))))))))))) ∧ (¬ a2 ≤ (tq_fi z 65) → Q (.inl (some (.int (0 : Int32)))) z))))))))
theorem am_X7_isCorner {K : Nat × (Nat → Int32)} {x : Nat} {z : tq_S} {Q : tq_O → tq_S → Prop} {a1 : Int32} {a2 : Int32} (h : wm_X7_isCorner a1 a2 z Q) : tq_M K 1 x mm_X7_isCorner [.ref 12, .int a1, .int a2] z Q := by
  unfold wm_X7_isCorner at h
  refine tq_enter (L := [.ref 12, .int a1, .int a2]) mf_X7_isCorner.1 rfl rfl (Nat.le_of_ble_eq_true rfl) ?_
  refine tq_s_iload_n (kk := 1) (by decide +kernel) rfl ?_
  refine tq_if_lt (off := 29) (tgt := 30) (by decide +kernel) (by decide +kernel) (fun hc => ?_) (fun hc => ?_)
  · replace h := h.1 hc
    refine tq_k_ic (n := 0) (v := (0 : Int32)) (by decide +kernel) kc_0 ?_
    exact tq_ret_z (st := []) (ty := .boolean) (by decide +kernel) (by decide +kernel) rfl h
  · replace h := h.2 hc
    refine tq_s_iload_n (kk := 1) (by decide +kernel) rfl ?_
    refine tq_s_aload_n (kk := 0) (by decide +kernel) rfl ?_
    refine fg_7_7_12 rfl (by decide +kernel) ?_
    refine fg_7_23_1 rfl (by decide +kernel) ?_
    refine tq_icmp_gt (off := 18) (tgt := 30) (by decide +kernel) (by decide +kernel) (fun hc => ?_) (fun hc => ?_)
    · replace h := h.1 hc
      refine tq_k_ic (n := 0) (v := (0 : Int32)) (by decide +kernel) kc_0 ?_
      exact tq_ret_z (st := []) (ty := .boolean) (by decide +kernel) (by decide +kernel) rfl h
    · replace h := h.2 hc
      refine tq_s_iload_n (kk := 2) (by decide +kernel) rfl ?_
      refine tq_if_lt (off := 14) (tgt := 30) (by decide +kernel) (by decide +kernel) (fun hc => ?_) (fun hc => ?_)
      · replace h := h.1 hc
        refine tq_k_ic (n := 0) (v := (0 : Int32)) (by decide +kernel) kc_0 ?_
        exact tq_ret_z (st := []) (ty := .boolean) (by decide +kernel) (by decide +kernel) rfl h
      · replace h := h.2 hc
        refine tq_s_iload_n (kk := 2) (by decide +kernel) rfl ?_
        refine tq_s_aload_n (kk := 0) (by decide +kernel) rfl ?_
        refine fg_7_7_12 rfl (by decide +kernel) ?_
        refine fg_7_29_1 rfl (by decide +kernel) ?_
        refine tq_icmp_le (off := 5) (tgt := 32) (by decide +kernel) (by decide +kernel) (fun hc => ?_) (fun hc => ?_)
        · replace h := h.1 hc
          refine tq_s_aload_n (kk := 0) (by decide +kernel) rfl ?_
          refine fg_7_7_12 rfl (by decide +kernel) ?_
          refine tq_s_iload_n (kk := 1) (by decide +kernel) rfl ?_
          refine tq_s_iload_n (kk := 2) (by decide +kernel) rfl ?_
          refine tq_callVN (as := [.int a1, .int a2]) (st := []) (d1 := 0) (x1 := 0) (x2 := x) (by decide +kernel) ln_7_32 mf_X1_holds rfl sh_1 rfl (by decide) np_X1_holds rfl (Nat.le_of_ble_eq_true rfl) (by decide) (Nat.zero_add _).symm (tq_M_mono (am_X1_holds h) ?_)
          refine tq_wi_e (fun r2 z1 h => ?_)
          refine tq_if_ne (off := 47) (tgt := 88) (by decide +kernel) (by decide +kernel) (fun hc => ?_) (fun hc => ?_)
          · replace h := h.1 hc
            refine tq_k_ic (n := 1) (v := (1 : Int32)) (by decide +kernel) kc_1 ?_
            refine tq_s_goto (off := 4) (tgt := 93) (by decide +kernel) (by decide +kernel) ?_
            exact tq_ret_z (st := []) (ty := .boolean) (by decide +kernel) (by decide +kernel) rfl h
          · replace h := h.2 hc
            refine tq_s_aload_n (kk := 0) (by decide +kernel) rfl ?_
            refine fg_7_7_12 rfl (by decide +kernel) ?_
            refine tq_s_iload_n (kk := 1) (by decide +kernel) rfl ?_
            refine tq_k_ic (n := 1) (v := (1 : Int32)) (by decide +kernel) kc_1 ?_
            refine tq_s_isub (by decide +kernel) ?_
            refine tq_s_iload_n (kk := 2) (by decide +kernel) rfl ?_
            refine tq_callVN (as := [.int (a1 - (1 : Int32)), .int a2]) (st := []) (d1 := 0) (x1 := 0) (x2 := x) (by decide +kernel) ln_7_32 mf_X1_holds rfl sh_1 rfl (by decide) np_X1_holds rfl (Nat.le_of_ble_eq_true rfl) (by decide) (Nat.zero_add _).symm (tq_M_mono (am_X1_holds h) ?_)
            refine tq_wi_e (fun r4 z3 h => ?_)
            refine tq_if_ne (off := 33) (tgt := 88) (by decide +kernel) (by decide +kernel) (fun hc => ?_) (fun hc => ?_)
            · replace h := h.1 hc
              refine tq_k_ic (n := 1) (v := (1 : Int32)) (by decide +kernel) kc_1 ?_
              refine tq_s_goto (off := 4) (tgt := 93) (by decide +kernel) (by decide +kernel) ?_
              exact tq_ret_z (st := []) (ty := .boolean) (by decide +kernel) (by decide +kernel) rfl h
            · replace h := h.2 hc
              refine tq_s_aload_n (kk := 0) (by decide +kernel) rfl ?_
              refine fg_7_7_12 rfl (by decide +kernel) ?_
              refine tq_s_iload_n (kk := 1) (by decide +kernel) rfl ?_
              refine tq_s_iload_n (kk := 2) (by decide +kernel) rfl ?_
              refine tq_k_ic (n := 1) (v := (1 : Int32)) (by decide +kernel) kc_1 ?_
              refine tq_s_isub (by decide +kernel) ?_
              refine tq_callVN (as := [.int a1, .int (a2 - (1 : Int32))]) (st := []) (d1 := 0) (x1 := 0) (x2 := x) (by decide +kernel) ln_7_32 mf_X1_holds rfl sh_1 rfl (by decide) np_X1_holds rfl (Nat.le_of_ble_eq_true rfl) (by decide) (Nat.zero_add _).symm (tq_M_mono (am_X1_holds h) ?_)
              refine tq_wi_e (fun r6 z5 h => ?_)
              refine tq_if_ne (off := 19) (tgt := 88) (by decide +kernel) (by decide +kernel) (fun hc => ?_) (fun hc => ?_)
              · replace h := h.1 hc
                refine tq_k_ic (n := 1) (v := (1 : Int32)) (by decide +kernel) kc_1 ?_
                refine tq_s_goto (off := 4) (tgt := 93) (by decide +kernel) (by decide +kernel) ?_
                exact tq_ret_z (st := []) (ty := .boolean) (by decide +kernel) (by decide +kernel) rfl h
              · replace h := h.2 hc
                refine tq_s_aload_n (kk := 0) (by decide +kernel) rfl ?_
                refine fg_7_7_12 rfl (by decide +kernel) ?_
                refine tq_s_iload_n (kk := 1) (by decide +kernel) rfl ?_
                refine tq_k_ic (n := 1) (v := (1 : Int32)) (by decide +kernel) kc_1 ?_
                refine tq_s_isub (by decide +kernel) ?_
                refine tq_s_iload_n (kk := 2) (by decide +kernel) rfl ?_
                refine tq_k_ic (n := 1) (v := (1 : Int32)) (by decide +kernel) kc_1 ?_
                refine tq_s_isub (by decide +kernel) ?_
                refine tq_callVN (as := [.int (a1 - (1 : Int32)), .int (a2 - (1 : Int32))]) (st := []) (d1 := 0) (x1 := 0) (x2 := x) (by decide +kernel) ln_7_32 mf_X1_holds rfl sh_1 rfl (by decide) np_X1_holds rfl (Nat.le_of_ble_eq_true rfl) (by decide) (Nat.zero_add _).symm (tq_M_mono (am_X1_holds h) ?_)
                refine tq_wi_e (fun r8 z7 h => ?_)
                refine tq_if_eq (off := 7) (tgt := 92) (by decide +kernel) (by decide +kernel) (fun hc => ?_) (fun hc => ?_)
                · replace h := h.1 hc
                  refine tq_k_ic (n := 0) (v := (0 : Int32)) (by decide +kernel) kc_0 ?_
                  exact tq_ret_z (st := []) (ty := .boolean) (by decide +kernel) (by decide +kernel) rfl h
                · replace h := h.2 hc
                  refine tq_k_ic (n := 1) (v := (1 : Int32)) (by decide +kernel) kc_1 ?_
                  refine tq_s_goto (off := 4) (tgt := 93) (by decide +kernel) (by decide +kernel) ?_
                  exact tq_ret_z (st := []) (ty := .boolean) (by decide +kernel) (by decide +kernel) rfl h
        · replace h := h.2 hc
          refine tq_k_ic (n := 0) (v := (0 : Int32)) (by decide +kernel) kc_0 ?_
          exact tq_ret_z (st := []) (ty := .boolean) (by decide +kernel) (by decide +kernel) rfl h
def wc_X7_rise_10 (Q : tq_O → tq_S → Prop) (a1 : Int32) (s0 : Int32) (z : tq_S) : Prop := ((a1 = 0 → Q (.inl (some (.int (-s0)))) z) ∧ (¬ a1 = 0 → Q (.inl (some (.int s0))) z))
theorem ac_X7_rise_10 {K : Nat × (Nat → Int32)} {x : Nat} {Q : tq_O → tq_S → Prop} {a1 : Int32} {s0 : Int32} {z : tq_S} (h : wc_X7_rise_10 Q a1 s0 z) : tq_T K 0 x mm_X7_rise 10 [.null, .int a1, .null, .null] [.int s0] z Q := by
  unfold wc_X7_rise_10 at h
  refine tq_s_istore_n (kk := 3) (L9 := [.null, .int a1, .null, .int s0]) (by decide +kernel) (by decide) rfl ?_
  refine tq_s_iload_n (kk := 1) (by decide +kernel) rfl ?_
  refine tq_if_eq (off := 7) (tgt := 19) (by decide +kernel) (by decide +kernel) (fun hc => ?_) (fun hc => ?_)
  · replace h := h.1 hc
    refine tq_s_iload_n (kk := 3) (by decide +kernel) rfl ?_
    refine tq_s_ineg (by decide +kernel) ?_
    exact tq_ret_i (st := []) (by decide +kernel) rfl h
  · replace h := h.2 hc
    refine tq_s_iload_n (kk := 3) (by decide +kernel) rfl ?_
    refine tq_s_goto (off := 5) (tgt := 21) (by decide +kernel) (by decide +kernel) ?_
    exact tq_ret_i (st := []) (by decide +kernel) rfl h
def wm_X7_rise (a1 : Int32) (a2 : Int32) (z : tq_S) (Q : tq_O → tq_S → Prop) : Prop := ((a2 = 0 → wc_X7_rise_10 Q a1 (1 : Int32) z) ∧ (¬ a2 = 0 → wc_X7_rise_10 Q a1 (-3 : Int32) z))
theorem am_X7_rise {K : Nat × (Nat → Int32)} {x : Nat} {z : tq_S} {Q : tq_O → tq_S → Prop} {a1 : Int32} {a2 : Int32} (h : wm_X7_rise a1 a2 z Q) : tq_M K 0 x mm_X7_rise [.ref 12, .int a1, .int a2] z Q := by
  unfold wm_X7_rise at h
  refine tq_enter (L := [.ref 12, .int a1, .int a2, .null]) mf_X7_rise.1 rfl rfl (Nat.le_of_ble_eq_true rfl) ?_
  refine tq_s_iload_n (kk := 2) (by decide +kernel) rfl ?_
  refine tq_if_eq (off := 8) (tgt := 9) (by decide +kernel) (by decide +kernel) (fun hc => ?_) (fun hc => ?_)
  · replace h := h.1 hc
    refine tq_k_ic (n := 1) (v := (1 : Int32)) (by decide +kernel) kc_1 ?_
    exact tq_to (tq_ld1 (tq_lk1 (tq_ld1 (tq_lk1 tq_l0)))) (ac_X7_rise_10 h)
  · replace h := h.2 hc
    refine tq_k_bi (n := -3) (v := (-3 : Int32)) (by decide +kernel) kb_m3 ?_
    refine tq_s_goto (off := 4) (tgt := 10) (by decide +kernel) (by decide +kernel) ?_
    exact tq_to (tq_ld1 (tq_lk1 (tq_ld1 (tq_lk1 tq_l0)))) (ac_X7_rise_10 h)
def wc_X7_riseRight_74 (Q : tq_O → tq_S → Prop) (a4 : Int32) (s0 : Int32) (z : tq_S) : Prop := wm_X7_rise s0 a4 z (tq_wi fun r102 z101 => Q (.inl (some (.int r102))) z101)
theorem ac_X7_riseRight_74 {K : Nat × (Nat → Int32)} {x : Nat} {Q : tq_O → tq_S → Prop} {a4 : Int32} {s0 : Int32} {z : tq_S} (h : wc_X7_riseRight_74 Q a4 s0 z) : tq_T K 1 x mm_X7_riseRight 74 [.null, .null, .null, .null, .int a4] [.int s0, .ref 12] z Q := by
  unfold wc_X7_riseRight_74 at h
  refine tq_s_iload (i := 4) (by decide +kernel) rfl ?_
  refine tq_callV (as := [.int s0, .int a4]) (st := []) (d1 := 0) (x1 := 0) (x2 := x) (by decide +kernel) ln_7_81 mf_X7_rise rfl sh_12 rfl (by decide) np_X7_rise rfl (Nat.le_of_ble_eq_true rfl) (by decide) (Nat.zero_add _).symm (tq_M_mono (am_X7_rise h) ?_)
  refine tq_wi_e (fun r102 z101 h => ?_)
  exact tq_ret_i (st := []) (by decide +kernel) rfl h
def wc_X7_riseRight_56 (Q : tq_O → tq_S → Prop) (a1 : Int32) (a2 : Int32) (s0 : Int32) (z : tq_S) : Prop := ((¬ (((a1 + a2) - (1 : Int32)) - ((a1 + a2) - (1 : Int32)) / (2 : Int32) * (2 : Int32)) = 0 → wc_X7_riseRight_74 Q s0 (0 : Int32) z) ∧ ((((a1 + a2) - (1 : Int32)) - ((a1 + a2) - (1 : Int32)) / (2 : Int32) * (2 : Int32)) = 0 → wc_X7_riseRight_74 Q s0 (1 : Int32) z))
theorem ac_X7_riseRight_56 {K : Nat × (Nat → Int32)} {x : Nat} {Q : tq_O → tq_S → Prop} {a1 : Int32} {a2 : Int32} {s0 : Int32} {z : tq_S} (h : wc_X7_riseRight_56 Q a1 a2 s0 z) : tq_T K 1 x mm_X7_riseRight 56 [.ref 12, .int a1, .int a2, .null, .null] [.int s0] z Q := by
  unfold wc_X7_riseRight_56 at h
  refine tq_s_istore (i := 4) (L9 := [.ref 12, .int a1, .int a2, .null, .int s0]) (by decide +kernel) (by decide) rfl ?_
  refine tq_s_aload_n (kk := 0) (by decide +kernel) rfl ?_
  refine tq_s_iload_n (kk := 1) (by decide +kernel) rfl ?_
  refine tq_s_iload_n (kk := 2) (by decide +kernel) rfl ?_
  refine tq_s_iadd (by decide +kernel) ?_
  refine tq_k_ic (n := 1) (v := (1 : Int32)) (by decide +kernel) kc_1 ?_
  refine tq_s_isub (by decide +kernel) ?_
  refine tq_k_ic (n := 2) (v := (2 : Int32)) (by decide +kernel) kc_2 ?_
  refine tq_s_irem (by decide +kernel) (by decide +kernel) ?_
  refine tq_if_ne (off := 7) (tgt := 73) (by decide +kernel) (by decide +kernel) (fun hc => ?_) (fun hc => ?_)
  · replace h := h.1 hc
    refine tq_k_ic (n := 0) (v := (0 : Int32)) (by decide +kernel) kc_0 ?_
    exact tq_to (tq_ld1 (tq_ld1 (tq_ld1 (tq_lk1 (tq_lk1 tq_l0))))) (ac_X7_riseRight_74 h)
  · replace h := h.2 hc
    refine tq_k_ic (n := 1) (v := (1 : Int32)) (by decide +kernel) kc_1 ?_
    refine tq_s_goto (off := 4) (tgt := 74) (by decide +kernel) (by decide +kernel) ?_
    exact tq_to (tq_ld1 (tq_ld1 (tq_ld1 (tq_lk1 (tq_lk1 tq_l0))))) (ac_X7_riseRight_74 h)
def wc_X7_riseRight_55 (Q : tq_O → tq_S → Prop) (a1 : Int32) (a2 : Int32) (z : tq_S) : Prop := wc_X7_riseRight_56 Q a1 a2 (0 : Int32) z
theorem ac_X7_riseRight_55 {K : Nat × (Nat → Int32)} {x : Nat} {Q : tq_O → tq_S → Prop} {a1 : Int32} {a2 : Int32} {z : tq_S} (h : wc_X7_riseRight_55 Q a1 a2 z) : tq_T K 1 x mm_X7_riseRight 55 [.ref 12, .int a1, .int a2, .null, .null] [] z Q := by
  unfold wc_X7_riseRight_55 at h
  refine tq_k_ic (n := 0) (v := (0 : Int32)) (by decide +kernel) kc_0 ?_
  exact ac_X7_riseRight_56 h
def wc_X7_riseRight_30 (Q : tq_O → tq_S → Prop) (a1 : Int32) (a2 : Int32) (a3 : Int32) (z : tq_S) : Prop := ((a3 = 0 → wc_X7_riseRight_55 Q a1 a2 z) ∧ (¬ a3 = 0 → wm_X1_bit a1 (a2 - (1 : Int32)) z (tq_wl fun r102 z101 => ((((tq_fl z 773) &&& r102) = (0 : Int64) → wc_X7_riseRight_55 Q a1 a2 z101) ∧ (¬ ((tq_fl z 773) &&& r102) = (0 : Int64) → wc_X7_riseRight_56 Q a1 a2 (1 : Int32) z101)))))
theorem ac_X7_riseRight_30 {K : Nat × (Nat → Int32)} {x : Nat} {Q : tq_O → tq_S → Prop} {a1 : Int32} {a2 : Int32} {a3 : Int32} {z : tq_S} (h : wc_X7_riseRight_30 Q a1 a2 a3 z) : tq_T K 1 x mm_X7_riseRight 30 [.ref 12, .int a1, .int a2, .int a3, .null] [] z Q := by
  unfold wc_X7_riseRight_30 at h
  refine tq_s_iload_n (kk := 3) (by decide +kernel) rfl ?_
  refine tq_if_eq (off := 24) (tgt := 55) (by decide +kernel) (by decide +kernel) (fun hc => ?_) (fun hc => ?_)
  · replace h := h.1 hc
    exact tq_to (tq_lk1 (tq_lk1 (tq_lk1 (tq_ld1 (tq_lk1 tq_l0))))) (ac_X7_riseRight_55 h)
  · replace h := h.2 hc
    refine tq_s_aload_n (kk := 0) (by decide +kernel) rfl ?_
    refine fg_7_50_12 rfl (by decide +kernel) ?_
    refine tq_s_iload_n (kk := 1) (by decide +kernel) rfl ?_
    refine tq_s_iload_n (kk := 2) (by decide +kernel) rfl ?_
    refine tq_k_ic (n := 1) (v := (1 : Int32)) (by decide +kernel) kc_1 ?_
    refine tq_s_isub (by decide +kernel) ?_
    refine tq_callSN (as := [.int a1, .int (a2 - (1 : Int32))]) (st := [.long (tq_fl z 773)]) (d1 := 0) (x1 := 0) (x2 := x) (by decide +kernel) ln_7_77 mf_X1_bit rfl (by decide) np_X1_bit rfl (Nat.le_of_ble_eq_true rfl) (by decide) (Nat.zero_add _).symm (tq_M_mono (am_X1_bit h) ?_)
    refine tq_wl_e (fun r102 z101 h => ?_)
    refine tq_s_land (by decide +kernel) ?_
    refine tq_k_lc (n := 0) (v := (0 : Int64)) (by decide +kernel) (by decide +kernel) ?_
    refine tq_lcmp_eq (off := 7) (tgt := 55) (by decide +kernel) (by decide +kernel) (by decide +kernel) (fun hc => ?_) (fun hc => ?_)
    · replace h := h.1 hc
      exact tq_to (tq_lk1 (tq_lk1 (tq_lk1 (tq_ld1 (tq_lk1 tq_l0))))) (ac_X7_riseRight_55 h)
    · replace h := h.2 hc
      refine tq_k_ic (n := 1) (v := (1 : Int32)) (by decide +kernel) kc_1 ?_
      refine tq_s_goto (off := 4) (tgt := 56) (by decide +kernel) (by decide +kernel) ?_
      exact tq_to (tq_lk1 (tq_lk1 (tq_lk1 (tq_ld1 (tq_lk1 tq_l0))))) (ac_X7_riseRight_56 h)
def wm_X7_riseRight (a1 : Int32) (a2 : Int32) (z : tq_S) (Q : tq_O → tq_S → Prop) : Prop := wm_X1_holds a1 (a2 - (1 : Int32)) z (tq_wi fun r2 z1 => ((¬ r2 = 0 → wc_X7_riseRight_30 Q a1 a2 r2 z1) ∧ (r2 = 0 → wm_X1_holds a1 a2 z1 (tq_wi fun r4 z3 => ((¬ r4 = 0 → wc_X7_riseRight_30 Q a1 a2 r2 z3) ∧ (r4 = 0 → Q (.inl (some (.int (0 : Int32)))) z3))))))
theorem am_X7_riseRight {K : Nat × (Nat → Int32)} {x : Nat} {z : tq_S} {Q : tq_O → tq_S → Prop} {a1 : Int32} {a2 : Int32} (h : wm_X7_riseRight a1 a2 z Q) : tq_M K 1 x mm_X7_riseRight [.ref 12, .int a1, .int a2] z Q := by
  unfold wm_X7_riseRight at h
  refine tq_enter (L := [.ref 12, .int a1, .int a2, .null, .null]) mf_X7_riseRight.1 rfl rfl (Nat.le_of_ble_eq_true rfl) ?_
  refine tq_s_aload_n (kk := 0) (by decide +kernel) rfl ?_
  refine fg_7_7_12 rfl (by decide +kernel) ?_
  refine tq_s_iload_n (kk := 1) (by decide +kernel) rfl ?_
  refine tq_s_iload_n (kk := 2) (by decide +kernel) rfl ?_
  refine tq_k_ic (n := 1) (v := (1 : Int32)) (by decide +kernel) kc_1 ?_
  refine tq_s_isub (by decide +kernel) ?_
  refine tq_callVN (as := [.int a1, .int (a2 - (1 : Int32))]) (st := []) (d1 := 0) (x1 := 0) (x2 := x) (by decide +kernel) ln_7_32 mf_X1_holds rfl sh_1 rfl (by decide) np_X1_holds rfl (Nat.le_of_ble_eq_true rfl) (by decide) (Nat.zero_add _).symm (tq_M_mono (am_X1_holds h) ?_)
  refine tq_wi_e (fun r2 z1 h => ?_)
  refine tq_s_istore_n (kk := 3) (L9 := [.ref 12, .int a1, .int a2, .int r2, .null]) (by decide +kernel) (by decide) rfl ?_
  refine tq_s_iload_n (kk := 3) (by decide +kernel) rfl ?_
  refine tq_if_ne (off := 17) (tgt := 30) (by decide +kernel) (by decide +kernel) (fun hc => ?_) (fun hc => ?_)
  · replace h := h.1 hc
    exact ac_X7_riseRight_30 h
  · replace h := h.2 hc
    refine tq_s_aload_n (kk := 0) (by decide +kernel) rfl ?_
    refine fg_7_7_12 rfl (by decide +kernel) ?_
    refine tq_s_iload_n (kk := 1) (by decide +kernel) rfl ?_
    refine tq_s_iload_n (kk := 2) (by decide +kernel) rfl ?_
    refine tq_callVN (as := [.int a1, .int a2]) (st := []) (d1 := 0) (x1 := 0) (x2 := x) (by decide +kernel) ln_7_32 mf_X1_holds rfl sh_1 rfl (by decide) np_X1_holds rfl (Nat.le_of_ble_eq_true rfl) (by decide) (Nat.zero_add _).symm (tq_M_mono (am_X1_holds h) ?_)
    refine tq_wi_e (fun r4 z3 h => ?_)
    refine tq_if_ne (off := 5) (tgt := 30) (by decide +kernel) (by decide +kernel) (fun hc => ?_) (fun hc => ?_)
    · replace h := h.1 hc
      exact ac_X7_riseRight_30 h
    · replace h := h.2 hc
      refine tq_k_ic (n := 0) (v := (0 : Int32)) (by decide +kernel) kc_0 ?_
      exact tq_ret_i (st := []) (by decide +kernel) rfl h
def wm_X7_reach (a1 : Int32) (a2 : Int32) (a3 : Int32) (a4 : Int32) (z : tq_S) (Q : tq_O → tq_S → Prop) : Prop := ∀ v1 : Int32, v1 = (a1 + a2) → ((a3 = 0 → Q (.inl (some (.int a4))) z) ∧ (¬ a3 = 0 → ((v1 < 0 → Q (.inl (some (.int a4))) z) ∧ (¬ v1 < 0 → (((81 : Int32) ≤ v1 → Q (.inl (some (.int a4))) z) ∧ (¬ (81 : Int32) ≤ v1 → vp_in v1 81 ∧ ((¬ (tq_ai z 14 (Int32.toNatClampNeg v1)) = (-9999 : Int32) → Q (.inl (some (.int a4))) z) ∧ ((tq_ai z 14 (Int32.toNatClampNeg v1)) = (-9999 : Int32) → ((a4 < (81 : Int32) → vp_in a1 81 ∧ vp_in v1 81 ∧ ∀ z2 : tq_S, z2 = tq_sai z 14 (upd (tq_ai z 14) (Int32.toNatClampNeg v1) ((tq_ai z 14 (Int32.toNatClampNeg a1)) + a3)) → vp_in a4 81 ∧ ∀ z3 : tq_S, z3 = tq_sai z2 15 (upd (tq_ai z2 15) (Int32.toNatClampNeg a4) v1) → Q (.inl (some (.int (a4 + (1 : Int32))))) z3) ∧ (¬ a4 < (81 : Int32) → Q (.inl (some (.int a4))) z))))))))))
theorem am_X7_reach {K : Nat × (Nat → Int32)} {x : Nat} {z : tq_S} {Q : tq_O → tq_S → Prop} {a1 : Int32} {a2 : Int32} {a3 : Int32} {a4 : Int32} (h : wm_X7_reach a1 a2 a3 a4 z Q) : tq_M K 0 x mm_X7_reach [.ref 12, .int a1, .int a2, .int a3, .int a4, .ref 14] z Q := by
  unfold wm_X7_reach at h
  refine tq_enter (L := [.ref 12, .int a1, .int a2, .int a3, .int a4, .ref 14, .null]) mf_X7_reach.1 rfl rfl (Nat.le_of_ble_eq_true rfl) ?_
  refine tq_s_iload_n (kk := 1) (by decide +kernel) rfl ?_
  refine tq_s_iload_n (kk := 2) (by decide +kernel) rfl ?_
  refine tq_s_iadd (by decide +kernel) ?_
  refine tq_g_istore (i := 6) (fun v1 => [.ref 12, .int a1, .int a2, .int a3, .int a4, .ref 14, .int v1]) (by decide +kernel) (by decide) (fun _ => rfl) (fun v1 ev1 => ?_)
  replace h := h v1 ev1
  refine tq_s_iload_n (kk := 3) (by decide +kernel) rfl ?_
  refine tq_if_eq (off := 33) (tgt := 39) (by decide +kernel) (by decide +kernel) (fun hc => ?_) (fun hc => ?_)
  · replace h := h.1 hc
    refine tq_s_iload (i := 4) (by decide +kernel) rfl ?_
    exact tq_ret_i (st := []) (by decide +kernel) rfl h
  · replace h := h.2 hc
    refine tq_s_iload (i := 6) (by decide +kernel) rfl ?_
    refine tq_if_lt (off := 28) (tgt := 39) (by decide +kernel) (by decide +kernel) (fun hc => ?_) (fun hc => ?_)
    · replace h := h.1 hc
      refine tq_s_iload (i := 4) (by decide +kernel) rfl ?_
      exact tq_ret_i (st := []) (by decide +kernel) rfl h
    · replace h := h.2 hc
      refine tq_s_iload (i := 6) (by decide +kernel) rfl ?_
      refine tq_k_bi (n := 81) (v := (81 : Int32)) (by decide +kernel) kb_81 ?_
      refine tq_icmp_ge (off := 21) (tgt := 39) (by decide +kernel) (by decide +kernel) (fun hc => ?_) (fun hc => ?_)
      · replace h := h.1 hc
        refine tq_s_iload (i := 4) (by decide +kernel) rfl ?_
        exact tq_ret_i (st := []) (by decide +kernel) rfl h
      · replace h := h.2 hc
        refine tq_s_aload (i := 5) (by decide +kernel) rfl ?_
        refine tq_s_iload (i := 6) (by decide +kernel) rfl ?_
        refine tq_s_iald (by decide +kernel) sh_14 h.1 ?_
        replace h := h.2
        refine tq_k_si (n := -9999) (v := (-9999 : Int32)) (by decide +kernel) ks_m9999 ?_
        refine tq_icmp_ne (off := 10) (tgt := 39) (by decide +kernel) (by decide +kernel) (fun hc => ?_) (fun hc => ?_)
        · replace h := h.1 hc
          refine tq_s_iload (i := 4) (by decide +kernel) rfl ?_
          exact tq_ret_i (st := []) (by decide +kernel) rfl h
        · replace h := h.2 hc
          refine tq_s_iload (i := 4) (by decide +kernel) rfl ?_
          refine tq_k_bi (n := 81) (v := (81 : Int32)) (by decide +kernel) kb_81 ?_
          refine tq_icmp_lt (off := 6) (tgt := 42) (by decide +kernel) (by decide +kernel) (fun hc => ?_) (fun hc => ?_)
          · replace h := h.1 hc
            refine tq_s_aload (i := 5) (by decide +kernel) rfl ?_
            refine tq_s_iload (i := 6) (by decide +kernel) rfl ?_
            refine tq_s_aload (i := 5) (by decide +kernel) rfl ?_
            refine tq_s_iload_n (kk := 1) (by decide +kernel) rfl ?_
            refine tq_s_iald (by decide +kernel) sh_14 h.1 ?_
            replace h := h.2
            refine tq_s_iload_n (kk := 3) (by decide +kernel) rfl ?_
            refine tq_s_iadd (by decide +kernel) ?_
            refine tq_g_iast (by decide +kernel) sh_14 h.1 (fun z2 ez2 => ?_)
            replace h := h.2 z2 ez2
            refine tq_s_aload_n (kk := 0) (by decide +kernel) rfl ?_
            refine fg_7_20_12 rfl (by decide +kernel) ?_
            refine tq_s_iload (i := 4) (by decide +kernel) rfl ?_
            refine tq_s_iload (i := 6) (by decide +kernel) rfl ?_
            refine tq_g_iast (by decide +kernel) sh_15 h.1 (fun z3 ez3 => ?_)
            replace h := h.2 z3 ez3
            refine tq_s_iload (i := 4) (by decide +kernel) rfl ?_
            refine tq_k_ic (n := 1) (v := (1 : Int32)) (by decide +kernel) kc_1 ?_
            refine tq_s_iadd (by decide +kernel) ?_
            exact tq_ret_i (st := []) (by decide +kernel) rfl h
          · replace h := h.2 hc
            refine tq_s_iload (i := 4) (by decide +kernel) rfl ?_
            exact tq_ret_i (st := []) (by decide +kernel) rfl h
def wc_X7_riseDown_72 (Q : tq_O → tq_S → Prop) (a4 : Int32) (s0 : Int32) (z : tq_S) : Prop := wm_X7_rise s0 a4 z (tq_wi fun r102 z101 => Q (.inl (some (.int r102))) z101)
theorem ac_X7_riseDown_72 {K : Nat × (Nat → Int32)} {x : Nat} {Q : tq_O → tq_S → Prop} {a4 : Int32} {s0 : Int32} {z : tq_S} (h : wc_X7_riseDown_72 Q a4 s0 z) : tq_T K 1 x mm_X7_riseDown 72 [.null, .null, .null, .null, .int a4] [.int s0, .ref 12] z Q := by
  unfold wc_X7_riseDown_72 at h
  refine tq_s_iload (i := 4) (by decide +kernel) rfl ?_
  refine tq_callV (as := [.int s0, .int a4]) (st := []) (d1 := 0) (x1 := 0) (x2 := x) (by decide +kernel) ln_7_81 mf_X7_rise rfl sh_12 rfl (by decide) np_X7_rise rfl (Nat.le_of_ble_eq_true rfl) (by decide) (Nat.zero_add _).symm (tq_M_mono (am_X7_rise h) ?_)
  refine tq_wi_e (fun r102 z101 h => ?_)
  exact tq_ret_i (st := []) (by decide +kernel) rfl h
def wc_X7_riseDown_56 (Q : tq_O → tq_S → Prop) (a1 : Int32) (a2 : Int32) (s0 : Int32) (z : tq_S) : Prop := ((¬ ((a1 + a2) - (a1 + a2) / (2 : Int32) * (2 : Int32)) = 0 → wc_X7_riseDown_72 Q s0 (0 : Int32) z) ∧ (((a1 + a2) - (a1 + a2) / (2 : Int32) * (2 : Int32)) = 0 → wc_X7_riseDown_72 Q s0 (1 : Int32) z))
theorem ac_X7_riseDown_56 {K : Nat × (Nat → Int32)} {x : Nat} {Q : tq_O → tq_S → Prop} {a1 : Int32} {a2 : Int32} {s0 : Int32} {z : tq_S} (h : wc_X7_riseDown_56 Q a1 a2 s0 z) : tq_T K 1 x mm_X7_riseDown 56 [.ref 12, .int a1, .int a2, .null, .null] [.int s0] z Q := by
  unfold wc_X7_riseDown_56 at h
  refine tq_s_istore (i := 4) (L9 := [.ref 12, .int a1, .int a2, .null, .int s0]) (by decide +kernel) (by decide) rfl ?_
  refine tq_s_aload_n (kk := 0) (by decide +kernel) rfl ?_
  refine tq_s_iload_n (kk := 1) (by decide +kernel) rfl ?_
  refine tq_s_iload_n (kk := 2) (by decide +kernel) rfl ?_
  refine tq_s_iadd (by decide +kernel) ?_
  refine tq_k_ic (n := 2) (v := (2 : Int32)) (by decide +kernel) kc_2 ?_
  refine tq_s_irem (by decide +kernel) (by decide +kernel) ?_
  refine tq_if_ne (off := 7) (tgt := 71) (by decide +kernel) (by decide +kernel) (fun hc => ?_) (fun hc => ?_)
  · replace h := h.1 hc
    refine tq_k_ic (n := 0) (v := (0 : Int32)) (by decide +kernel) kc_0 ?_
    exact tq_to (tq_ld1 (tq_ld1 (tq_ld1 (tq_lk1 (tq_lk1 tq_l0))))) (ac_X7_riseDown_72 h)
  · replace h := h.2 hc
    refine tq_k_ic (n := 1) (v := (1 : Int32)) (by decide +kernel) kc_1 ?_
    refine tq_s_goto (off := 4) (tgt := 72) (by decide +kernel) (by decide +kernel) ?_
    exact tq_to (tq_ld1 (tq_ld1 (tq_ld1 (tq_lk1 (tq_lk1 tq_l0))))) (ac_X7_riseDown_72 h)
def wc_X7_riseDown_55 (Q : tq_O → tq_S → Prop) (a1 : Int32) (a2 : Int32) (z : tq_S) : Prop := wc_X7_riseDown_56 Q a1 a2 (0 : Int32) z
theorem ac_X7_riseDown_55 {K : Nat × (Nat → Int32)} {x : Nat} {Q : tq_O → tq_S → Prop} {a1 : Int32} {a2 : Int32} {z : tq_S} (h : wc_X7_riseDown_55 Q a1 a2 z) : tq_T K 1 x mm_X7_riseDown 55 [.ref 12, .int a1, .int a2, .null, .null] [] z Q := by
  unfold wc_X7_riseDown_55 at h
  refine tq_k_ic (n := 0) (v := (0 : Int32)) (by decide +kernel) kc_0 ?_
  exact ac_X7_riseDown_56 h
def wc_X7_riseDown_30 (Q : tq_O → tq_S → Prop) (a1 : Int32) (a2 : Int32) (a3 : Int32) (z : tq_S) : Prop := ((a3 = 0 → wc_X7_riseDown_55 Q a1 a2 z) ∧ (¬ a3 = 0 → wm_X1_bit (a1 - (1 : Int32)) a2 z (tq_wl fun r102 z101 => ((((tq_fl z 772) &&& r102) = (0 : Int64) → wc_X7_riseDown_55 Q a1 a2 z101) ∧ (¬ ((tq_fl z 772) &&& r102) = (0 : Int64) → wc_X7_riseDown_56 Q a1 a2 (1 : Int32) z101)))))
theorem ac_X7_riseDown_30 {K : Nat × (Nat → Int32)} {x : Nat} {Q : tq_O → tq_S → Prop} {a1 : Int32} {a2 : Int32} {a3 : Int32} {z : tq_S} (h : wc_X7_riseDown_30 Q a1 a2 a3 z) : tq_T K 1 x mm_X7_riseDown 30 [.ref 12, .int a1, .int a2, .int a3, .null] [] z Q := by
  unfold wc_X7_riseDown_30 at h
  refine tq_s_iload_n (kk := 3) (by decide +kernel) rfl ?_
  refine tq_if_eq (off := 24) (tgt := 55) (by decide +kernel) (by decide +kernel) (fun hc => ?_) (fun hc => ?_)
  · replace h := h.1 hc
    exact tq_to (tq_lk1 (tq_lk1 (tq_lk1 (tq_ld1 (tq_lk1 tq_l0))))) (ac_X7_riseDown_55 h)
  · replace h := h.2 hc
    refine tq_s_aload_n (kk := 0) (by decide +kernel) rfl ?_
    refine fg_7_46_12 rfl (by decide +kernel) ?_
    refine tq_s_iload_n (kk := 1) (by decide +kernel) rfl ?_
    refine tq_k_ic (n := 1) (v := (1 : Int32)) (by decide +kernel) kc_1 ?_
    refine tq_s_isub (by decide +kernel) ?_
    refine tq_s_iload_n (kk := 2) (by decide +kernel) rfl ?_
    refine tq_callSN (as := [.int (a1 - (1 : Int32)), .int a2]) (st := [.long (tq_fl z 772)]) (d1 := 0) (x1 := 0) (x2 := x) (by decide +kernel) ln_7_77 mf_X1_bit rfl (by decide) np_X1_bit rfl (Nat.le_of_ble_eq_true rfl) (by decide) (Nat.zero_add _).symm (tq_M_mono (am_X1_bit h) ?_)
    refine tq_wl_e (fun r102 z101 h => ?_)
    refine tq_s_land (by decide +kernel) ?_
    refine tq_k_lc (n := 0) (v := (0 : Int64)) (by decide +kernel) (by decide +kernel) ?_
    refine tq_lcmp_eq (off := 7) (tgt := 55) (by decide +kernel) (by decide +kernel) (by decide +kernel) (fun hc => ?_) (fun hc => ?_)
    · replace h := h.1 hc
      exact tq_to (tq_lk1 (tq_lk1 (tq_lk1 (tq_ld1 (tq_lk1 tq_l0))))) (ac_X7_riseDown_55 h)
    · replace h := h.2 hc
      refine tq_k_ic (n := 1) (v := (1 : Int32)) (by decide +kernel) kc_1 ?_
      refine tq_s_goto (off := 4) (tgt := 56) (by decide +kernel) (by decide +kernel) ?_
      exact tq_to (tq_lk1 (tq_lk1 (tq_lk1 (tq_ld1 (tq_lk1 tq_l0))))) (ac_X7_riseDown_56 h)
def wm_X7_riseDown (a1 : Int32) (a2 : Int32) (z : tq_S) (Q : tq_O → tq_S → Prop) : Prop := wm_X1_holds (a1 - (1 : Int32)) a2 z (tq_wi fun r2 z1 => ((¬ r2 = 0 → wc_X7_riseDown_30 Q a1 a2 r2 z1) ∧ (r2 = 0 → wm_X1_holds a1 a2 z1 (tq_wi fun r4 z3 => ((¬ r4 = 0 → wc_X7_riseDown_30 Q a1 a2 r2 z3) ∧ (r4 = 0 → Q (.inl (some (.int (0 : Int32)))) z3))))))
theorem am_X7_riseDown {K : Nat × (Nat → Int32)} {x : Nat} {z : tq_S} {Q : tq_O → tq_S → Prop} {a1 : Int32} {a2 : Int32} (h : wm_X7_riseDown a1 a2 z Q) : tq_M K 1 x mm_X7_riseDown [.ref 12, .int a1, .int a2] z Q := by
  unfold wm_X7_riseDown at h
  refine tq_enter (L := [.ref 12, .int a1, .int a2, .null, .null]) mf_X7_riseDown.1 rfl rfl (Nat.le_of_ble_eq_true rfl) ?_
  refine tq_s_aload_n (kk := 0) (by decide +kernel) rfl ?_
  refine fg_7_7_12 rfl (by decide +kernel) ?_
  refine tq_s_iload_n (kk := 1) (by decide +kernel) rfl ?_
  refine tq_k_ic (n := 1) (v := (1 : Int32)) (by decide +kernel) kc_1 ?_
  refine tq_s_isub (by decide +kernel) ?_
  refine tq_s_iload_n (kk := 2) (by decide +kernel) rfl ?_
  refine tq_callVN (as := [.int (a1 - (1 : Int32)), .int a2]) (st := []) (d1 := 0) (x1 := 0) (x2 := x) (by decide +kernel) ln_7_32 mf_X1_holds rfl sh_1 rfl (by decide) np_X1_holds rfl (Nat.le_of_ble_eq_true rfl) (by decide) (Nat.zero_add _).symm (tq_M_mono (am_X1_holds h) ?_)
  refine tq_wi_e (fun r2 z1 h => ?_)
  refine tq_s_istore_n (kk := 3) (L9 := [.ref 12, .int a1, .int a2, .int r2, .null]) (by decide +kernel) (by decide) rfl ?_
  refine tq_s_iload_n (kk := 3) (by decide +kernel) rfl ?_
  refine tq_if_ne (off := 17) (tgt := 30) (by decide +kernel) (by decide +kernel) (fun hc => ?_) (fun hc => ?_)
  · replace h := h.1 hc
    exact ac_X7_riseDown_30 h
  · replace h := h.2 hc
    refine tq_s_aload_n (kk := 0) (by decide +kernel) rfl ?_
    refine fg_7_7_12 rfl (by decide +kernel) ?_
    refine tq_s_iload_n (kk := 1) (by decide +kernel) rfl ?_
    refine tq_s_iload_n (kk := 2) (by decide +kernel) rfl ?_
    refine tq_callVN (as := [.int a1, .int a2]) (st := []) (d1 := 0) (x1 := 0) (x2 := x) (by decide +kernel) ln_7_32 mf_X1_holds rfl sh_1 rfl (by decide) np_X1_holds rfl (Nat.le_of_ble_eq_true rfl) (by decide) (Nat.zero_add _).symm (tq_M_mono (am_X1_holds h) ?_)
    refine tq_wi_e (fun r4 z3 h => ?_)
    refine tq_if_ne (off := 5) (tgt := 30) (by decide +kernel) (by decide +kernel) (fun hc => ?_) (fun hc => ?_)
    · replace h := h.1 hc
      exact ac_X7_riseDown_30 h
    · replace h := h.2 hc
      refine tq_k_ic (n := 0) (v := (0 : Int32)) (by decide +kernel) kc_0 ?_
      exact tq_ret_i (st := []) (by decide +kernel) rfl h
def wb_X7_spread_16 (B16 : Int32 → Int32 → tq_S → Prop) (Q : tq_O → tq_S → Prop) (a3 : Int32) (a4 : Int32) (z : tq_S) : Prop := ((a3 ≤ a4 → Q (.inl none) z) ∧ (¬ a3 ≤ a4 → (((81 : Int32) ≤ a4 → Q (.inl none) z) ∧ (¬ (81 : Int32) ≤ a4 → vp_in a4 81 ∧ ∀ v101 : Int32, v101 = ((tq_ai z 15 (Int32.toNatClampNeg a4)) - (tq_ai z 15 (Int32.toNatClampNeg a4)) / (9 : Int32) * (9 : Int32)) → vp_in a4 81 ∧ ∀ v102 : Int32, v102 = ((tq_ai z 15 (Int32.toNatClampNeg a4)) / (9 : Int32)) → vp_in a4 81 ∧ wm_X7_riseRight v101 v102 z (tq_wi fun r104 z103 => wm_X7_reach (tq_ai z 15 (Int32.toNatClampNeg a4)) (1 : Int32) r104 a3 z103 (tq_wi fun r106 z105 => vp_in a4 81 ∧ wm_X7_riseDown v101 v102 z105 (tq_wi fun r108 z107 => wm_X7_reach (tq_ai z105 15 (Int32.toNatClampNeg a4)) (9 : Int32) r108 r106 z107 (tq_wi fun r110 z109 => vp_in a4 81 ∧ wm_X7_riseRight (v101 - (1 : Int32)) v102 z109 (tq_wi fun r112 z111 => wm_X7_reach (tq_ai z109 15 (Int32.toNatClampNeg a4)) (-1 : Int32) (-r112) r110 z111 (tq_wi fun r114 z113 => vp_in a4 81 ∧ wm_X7_riseDown v101 (v102 - (1 : Int32)) z113 (tq_wi fun r116 z115 => wm_X7_reach (tq_ai z113 15 (Int32.toNatClampNeg a4)) (-9 : Int32) (-r116) r114 z115 (tq_wi fun r118 z117 => ∀ v119 : Int32, v119 = a4 + (1 : Int32) → B16 r118 v119 z117))))))))))))
def wc_X7_spread_16 (Q : tq_O → tq_S → Prop) (a3 : Int32) (a4 : Int32) (z : tq_S) : Prop := tq_lp (σ := Int32 × Int32 × tq_S) (fun B s => wb_X7_spread_16 (fun b3 b4 z => B (b3, b4, z)) Q s.1 s.2.1 s.2.2) (a3, a4, z)
theorem ab_X7_spread_16 {K : Nat × (Nat → Int32)} {x : Nat} {Q : tq_O → tq_S → Prop} {B16 : Int32 → Int32 → tq_S → Prop} {a3 : Int32} {a4 : Int32} {z : tq_S} (hB16 : ∀ (b3 : Int32) (b4 : Int32) (z : tq_S), B16 b3 b4 z → tq_T K 2 x mm_X7_spread 16 [.ref 12, .null, .ref 14, .int b3, .int b4, .null, .null] [] z Q) (h : wb_X7_spread_16 B16 Q a3 a4 z) : tq_T K 2 x mm_X7_spread 16 [.ref 12, .null, .ref 14, .int a3, .int a4, .null, .null] [] z Q := by
  unfold wb_X7_spread_16 at h
  refine tq_s_iload (i := 4) (by decide +kernel) rfl ?_
  refine tq_s_iload_n (kk := 3) (by decide +kernel) rfl ?_
  refine tq_icmp_ge (off := 140) (tgt := 159) (by decide +kernel) (by decide +kernel) (fun hc => ?_) (fun hc => ?_)
  · replace h := h.1 hc
    exact tq_ret_v (st := []) (by decide +kernel) rfl h
  · replace h := h.2 hc
    refine tq_s_iload (i := 4) (by decide +kernel) rfl ?_
    refine tq_k_bi (n := 81) (v := (81 : Int32)) (by decide +kernel) kb_81 ?_
    refine tq_icmp_ge (off := 133) (tgt := 159) (by decide +kernel) (by decide +kernel) (fun hc => ?_) (fun hc => ?_)
    · replace h := h.1 hc
      exact tq_ret_v (st := []) (by decide +kernel) rfl h
    · replace h := h.2 hc
      refine tq_s_aload_n (kk := 0) (by decide +kernel) rfl ?_
      refine fg_7_20_12 rfl (by decide +kernel) ?_
      refine tq_s_iload (i := 4) (by decide +kernel) rfl ?_
      refine tq_s_iald (by decide +kernel) sh_15 h.1 ?_
      replace h := h.2
      refine tq_k_bi (n := 9) (v := (9 : Int32)) (by decide +kernel) kb_9 ?_
      refine tq_s_irem (by decide +kernel) (by decide +kernel) ?_
      refine tq_g_istore (i := 5) (fun v101 => [.ref 12, .null, .ref 14, .int a3, .int a4, .int v101, .null]) (by decide +kernel) (by decide) (fun _ => rfl) (fun v101 ev101 => ?_)
      replace h := h v101 ev101
      refine tq_s_aload_n (kk := 0) (by decide +kernel) rfl ?_
      refine fg_7_20_12 rfl (by decide +kernel) ?_
      refine tq_s_iload (i := 4) (by decide +kernel) rfl ?_
      refine tq_s_iald (by decide +kernel) sh_15 h.1 ?_
      replace h := h.2
      refine tq_k_bi (n := 9) (v := (9 : Int32)) (by decide +kernel) kb_9 ?_
      refine tq_s_idiv (by decide +kernel) (by decide +kernel) ?_
      refine tq_g_istore (i := 6) (fun v102 => [.ref 12, .null, .ref 14, .int a3, .int a4, .int v101, .int v102]) (by decide +kernel) (by decide) (fun _ => rfl) (fun v102 ev102 => ?_)
      replace h := h v102 ev102
      refine tq_s_aload_n (kk := 0) (by decide +kernel) rfl ?_
      refine tq_s_aload_n (kk := 0) (by decide +kernel) rfl ?_
      refine fg_7_20_12 rfl (by decide +kernel) ?_
      refine tq_s_iload (i := 4) (by decide +kernel) rfl ?_
      refine tq_s_iald (by decide +kernel) sh_15 h.1 ?_
      replace h := h.2
      refine tq_k_ic (n := 1) (v := (1 : Int32)) (by decide +kernel) kc_1 ?_
      refine tq_s_aload_n (kk := 0) (by decide +kernel) rfl ?_
      refine tq_s_iload (i := 5) (by decide +kernel) rfl ?_
      refine tq_s_iload (i := 6) (by decide +kernel) rfl ?_
      refine tq_callV (as := [.int v101, .int v102]) (st := [.int (1 : Int32), .int (tq_ai z 15 (Int32.toNatClampNeg a4)), .ref 12]) (d1 := 1) (x1 := 0) (x2 := x) (by decide +kernel) ln_7_66 mf_X7_riseRight rfl sh_12 rfl (by decide) np_X7_riseRight rfl (Nat.le_of_ble_eq_true rfl) (by decide) (Nat.zero_add _).symm (tq_M_mono (am_X7_riseRight h) ?_)
      refine tq_wi_e (fun r104 z103 h => ?_)
      refine tq_s_iload_n (kk := 3) (by decide +kernel) rfl ?_
      refine tq_s_aload_n (kk := 2) (by decide +kernel) rfl ?_
      refine tq_callV (as := [.int (tq_ai z 15 (Int32.toNatClampNeg a4)), .int (1 : Int32), .int r104, .int a3, .ref 14]) (st := []) (d1 := 0) (x1 := 0) (x2 := x) (by decide +kernel) ln_7_70 mf_X7_reach rfl sh_12 rfl (by decide) np_X7_reach rfl (Nat.le_of_ble_eq_true rfl) (by decide) (Nat.zero_add _).symm (tq_M_mono (am_X7_reach h) ?_)
      refine tq_wi_e (fun r106 z105 h => ?_)
      refine tq_s_istore_n (kk := 3) (L9 := [.ref 12, .null, .ref 14, .int r106, .int a4, .int v101, .int v102]) (by decide +kernel) (by decide) rfl ?_
      refine tq_s_aload_n (kk := 0) (by decide +kernel) rfl ?_
      refine tq_s_aload_n (kk := 0) (by decide +kernel) rfl ?_
      refine fg_7_20_12 rfl (by decide +kernel) ?_
      refine tq_s_iload (i := 4) (by decide +kernel) rfl ?_
      refine tq_s_iald (by decide +kernel) sh_15 h.1 ?_
      replace h := h.2
      refine tq_k_bi (n := 9) (v := (9 : Int32)) (by decide +kernel) kb_9 ?_
      refine tq_s_aload_n (kk := 0) (by decide +kernel) rfl ?_
      refine tq_s_iload (i := 5) (by decide +kernel) rfl ?_
      refine tq_s_iload (i := 6) (by decide +kernel) rfl ?_
      refine tq_callV (as := [.int v101, .int v102]) (st := [.int (9 : Int32), .int (tq_ai z105 15 (Int32.toNatClampNeg a4)), .ref 12]) (d1 := 1) (x1 := 0) (x2 := x) (by decide +kernel) ln_7_74 mf_X7_riseDown rfl sh_12 rfl (by decide) np_X7_riseDown rfl (Nat.le_of_ble_eq_true rfl) (by decide) (Nat.zero_add _).symm (tq_M_mono (am_X7_riseDown h) ?_)
      refine tq_wi_e (fun r108 z107 h => ?_)
      refine tq_s_iload_n (kk := 3) (by decide +kernel) rfl ?_
      refine tq_s_aload_n (kk := 2) (by decide +kernel) rfl ?_
      refine tq_callV (as := [.int (tq_ai z105 15 (Int32.toNatClampNeg a4)), .int (9 : Int32), .int r108, .int r106, .ref 14]) (st := []) (d1 := 0) (x1 := 0) (x2 := x) (by decide +kernel) ln_7_70 mf_X7_reach rfl sh_12 rfl (by decide) np_X7_reach rfl (Nat.le_of_ble_eq_true rfl) (by decide) (Nat.zero_add _).symm (tq_M_mono (am_X7_reach h) ?_)
      refine tq_wi_e (fun r110 z109 h => ?_)
      refine tq_s_istore_n (kk := 3) (L9 := [.ref 12, .null, .ref 14, .int r110, .int a4, .int v101, .int v102]) (by decide +kernel) (by decide) rfl ?_
      refine tq_s_aload_n (kk := 0) (by decide +kernel) rfl ?_
      refine tq_s_aload_n (kk := 0) (by decide +kernel) rfl ?_
      refine fg_7_20_12 rfl (by decide +kernel) ?_
      refine tq_s_iload (i := 4) (by decide +kernel) rfl ?_
      refine tq_s_iald (by decide +kernel) sh_15 h.1 ?_
      replace h := h.2
      refine tq_k_ic (n := -1) (v := (-1 : Int32)) (by decide +kernel) kc_m1 ?_
      refine tq_s_aload_n (kk := 0) (by decide +kernel) rfl ?_
      refine tq_s_iload (i := 5) (by decide +kernel) rfl ?_
      refine tq_k_ic (n := 1) (v := (1 : Int32)) (by decide +kernel) kc_1 ?_
      refine tq_s_isub (by decide +kernel) ?_
      refine tq_s_iload (i := 6) (by decide +kernel) rfl ?_
      refine tq_callV (as := [.int (v101 - (1 : Int32)), .int v102]) (st := [.int (-1 : Int32), .int (tq_ai z109 15 (Int32.toNatClampNeg a4)), .ref 12]) (d1 := 1) (x1 := 0) (x2 := x) (by decide +kernel) ln_7_66 mf_X7_riseRight rfl sh_12 rfl (by decide) np_X7_riseRight rfl (Nat.le_of_ble_eq_true rfl) (by decide) (Nat.zero_add _).symm (tq_M_mono (am_X7_riseRight h) ?_)
      refine tq_wi_e (fun r112 z111 h => ?_)
      refine tq_s_ineg (by decide +kernel) ?_
      refine tq_s_iload_n (kk := 3) (by decide +kernel) rfl ?_
      refine tq_s_aload_n (kk := 2) (by decide +kernel) rfl ?_
      refine tq_callV (as := [.int (tq_ai z109 15 (Int32.toNatClampNeg a4)), .int (-1 : Int32), .int (-r112), .int r110, .ref 14]) (st := []) (d1 := 0) (x1 := 0) (x2 := x) (by decide +kernel) ln_7_70 mf_X7_reach rfl sh_12 rfl (by decide) np_X7_reach rfl (Nat.le_of_ble_eq_true rfl) (by decide) (Nat.zero_add _).symm (tq_M_mono (am_X7_reach h) ?_)
      refine tq_wi_e (fun r114 z113 h => ?_)
      refine tq_s_istore_n (kk := 3) (L9 := [.ref 12, .null, .ref 14, .int r114, .int a4, .int v101, .int v102]) (by decide +kernel) (by decide) rfl ?_
      refine tq_s_aload_n (kk := 0) (by decide +kernel) rfl ?_
      refine tq_s_aload_n (kk := 0) (by decide +kernel) rfl ?_
      refine fg_7_20_12 rfl (by decide +kernel) ?_
      refine tq_s_iload (i := 4) (by decide +kernel) rfl ?_
      refine tq_s_iald (by decide +kernel) sh_15 h.1 ?_
      replace h := h.2
      refine tq_k_bi (n := -9) (v := (-9 : Int32)) (by decide +kernel) kb_m9 ?_
      refine tq_s_aload_n (kk := 0) (by decide +kernel) rfl ?_
      refine tq_s_iload (i := 5) (by decide +kernel) rfl ?_
      refine tq_s_iload (i := 6) (by decide +kernel) rfl ?_
      refine tq_k_ic (n := 1) (v := (1 : Int32)) (by decide +kernel) kc_1 ?_
      refine tq_s_isub (by decide +kernel) ?_
      refine tq_callV (as := [.int v101, .int (v102 - (1 : Int32))]) (st := [.int (-9 : Int32), .int (tq_ai z113 15 (Int32.toNatClampNeg a4)), .ref 12]) (d1 := 1) (x1 := 0) (x2 := x) (by decide +kernel) ln_7_74 mf_X7_riseDown rfl sh_12 rfl (by decide) np_X7_riseDown rfl (Nat.le_of_ble_eq_true rfl) (by decide) (Nat.zero_add _).symm (tq_M_mono (am_X7_riseDown h) ?_)
      refine tq_wi_e (fun r116 z115 h => ?_)
      refine tq_s_ineg (by decide +kernel) ?_
      refine tq_s_iload_n (kk := 3) (by decide +kernel) rfl ?_
      refine tq_s_aload_n (kk := 2) (by decide +kernel) rfl ?_
      refine tq_callV (as := [.int (tq_ai z113 15 (Int32.toNatClampNeg a4)), .int (-9 : Int32), .int (-r116), .int r114, .ref 14]) (st := []) (d1 := 0) (x1 := 0) (x2 := x) (by decide +kernel) ln_7_70 mf_X7_reach rfl sh_12 rfl (by decide) np_X7_reach rfl (Nat.le_of_ble_eq_true rfl) (by decide) (Nat.zero_add _).symm (tq_M_mono (am_X7_reach h) ?_)
      refine tq_wi_e (fun r118 z117 h => ?_)
      refine tq_s_istore_n (kk := 3) (L9 := [.ref 12, .null, .ref 14, .int r118, .int a4, .int v101, .int v102]) (by decide +kernel) (by decide) rfl ?_
      refine tq_g_iinc (i := 4) (fun v119 => [.ref 12, .null, .ref 14, .int r118, .int v119, .int v101, .int v102]) (by decide +kernel) rfl (1 : Int32) kc_1 (fun _ => rfl) (fun v119 ev119 => ?_)
      replace h := h v119 ev119
      refine tq_s_goto (off := -140) (tgt := 16) (by decide +kernel) (by decide +kernel) ?_
      exact tq_to (tq_lk1 (tq_lk1 (tq_lk1 (tq_lk1 (tq_lk1 (tq_ld1 (tq_ld1 tq_l0))))))) (hB16 _ _ _ h)
theorem ac_X7_spread_16 {K : Nat × (Nat → Int32)} {x : Nat} {Q : tq_O → tq_S → Prop} {a3 : Int32} {a4 : Int32} {z : tq_S} (h : wc_X7_spread_16 Q a3 a4 z) : tq_T K 2 x mm_X7_spread 16 [.ref 12, .null, .ref 14, .int a3, .int a4, .null, .null] [] z Q :=
  tq_lp_T (σ := Int32 × Int32 × tq_S) (s := (a3, a4, z)) (G := fun s => tq_T K 2 x mm_X7_spread 16 [.ref 12, .null, .ref 14, .int s.1, .int s.2.1, .null, .null] [] s.2.2 Q) (fun B hB s h => ab_X7_spread_16 (fun b3 b4 z h => hB (b3, b4, z) h) h) h
def wm_X7_spread (a1 : Int32) (z : tq_S) (Q : tq_O → tq_S → Prop) : Prop := vp_in a1 81 ∧ ∀ z1 : tq_S, z1 = tq_sai z 14 (upd (tq_ai z 14) (Int32.toNatClampNeg a1) (0 : Int32)) → ∀ z2 : tq_S, z2 = tq_sai z1 15 (upd (tq_ai z1 15) (Int32.toNatClampNeg (0 : Int32)) a1) → wc_X7_spread_16 Q (1 : Int32) (0 : Int32) z2
theorem am_X7_spread {K : Nat × (Nat → Int32)} {x : Nat} {z : tq_S} {Q : tq_O → tq_S → Prop} {a1 : Int32} (h : wm_X7_spread a1 z Q) : tq_M K 2 x mm_X7_spread [.ref 12, .int a1, .ref 14] z Q := by
  unfold wm_X7_spread at h
  refine tq_enter (L := [.ref 12, .int a1, .ref 14, .null, .null, .null, .null]) mf_X7_spread.1 rfl rfl (Nat.le_of_ble_eq_true rfl) ?_
  refine tq_s_aload_n (kk := 2) (by decide +kernel) rfl ?_
  refine tq_s_iload_n (kk := 1) (by decide +kernel) rfl ?_
  refine tq_k_ic (n := 0) (v := (0 : Int32)) (by decide +kernel) kc_0 ?_
  refine tq_g_iast (by decide +kernel) sh_14 h.1 (fun z1 ez1 => ?_)
  replace h := h.2 z1 ez1
  refine tq_s_aload_n (kk := 0) (by decide +kernel) rfl ?_
  refine fg_7_20_12 rfl (by decide +kernel) ?_
  refine tq_k_ic (n := 0) (v := (0 : Int32)) (by decide +kernel) kc_0 ?_
  refine tq_s_iload_n (kk := 1) (by decide +kernel) rfl ?_
  refine tq_g_iast (by decide +kernel) sh_15 vi_0_81 (fun z2 ez2 => ?_)
  replace h := h z2 ez2
  refine tq_k_ic (n := 1) (v := (1 : Int32)) (by decide +kernel) kc_1 ?_
  refine tq_s_istore_n (kk := 3) (L9 := [.ref 12, .int a1, .ref 14, .int (1 : Int32), .null, .null, .null]) (by decide +kernel) (by decide) rfl ?_
  refine tq_k_ic (n := 0) (v := (0 : Int32)) (by decide +kernel) kc_0 ?_
  refine tq_s_istore (i := 4) (L9 := [.ref 12, .int a1, .ref 14, .int (1 : Int32), .int (0 : Int32), .null, .null]) (by decide +kernel) (by decide) rfl ?_
  exact tq_to (tq_lk1 (tq_ld1 (tq_lk1 (tq_lk1 (tq_lk1 (tq_lk1 (tq_lk1 tq_l0))))))) (ac_X7_spread_16 h)
def wc_X7_fillRow_90 (B21 : Int32 → tq_S → Prop) (B36 : Int32 → tq_S → Prop) (Q : tq_O → tq_S → Prop) (a6 : Int32) (a7 : Int32) (z : tq_S) : Prop := ∀ v101 : Int32, v101 = a7 + (1 : Int32) → B36 v101 z
theorem ac_X7_fillRow_90 {K : Nat × (Nat → Int32)} {x : Nat} {Q : tq_O → tq_S → Prop} {B21 : Int32 → tq_S → Prop} {B36 : Int32 → tq_S → Prop} {a6 : Int32} {a7 : Int32} {z : tq_S} (hB21 : ∀ (b6 : Int32) (z : tq_S), B21 b6 z → tq_T K 3 x mm_X7_fillRow 21 [.ref 12, .null, .null, .null, .null, .ref 14, .int b6, .null] [] z Q) (hB36 : ∀ (b7 : Int32) (z : tq_S), B36 b7 z → tq_T K 3 x mm_X7_fillRow 36 [.ref 12, .null, .null, .null, .null, .ref 14, .int a6, .int b7] [] z Q) (h : wc_X7_fillRow_90 B21 B36 Q a6 a7 z) : tq_T K 3 x mm_X7_fillRow 90 [.ref 12, .null, .null, .null, .null, .ref 14, .int a6, .int a7] [] z Q := by
  unfold wc_X7_fillRow_90 at h
  refine tq_g_iinc (i := 7) (fun v101 => [.ref 12, .null, .null, .null, .null, .ref 14, .int a6, .int v101]) (by decide +kernel) rfl (1 : Int32) kc_1 (fun _ => rfl) (fun v101 ev101 => ?_)
  replace h := h v101 ev101
  refine tq_s_goto (off := -57) (tgt := 36) (by decide +kernel) (by decide +kernel) ?_
  exact hB36 _ _ h
def wc_X7_fillRow_96 (B21 : Int32 → tq_S → Prop) (Q : tq_O → tq_S → Prop) (a6 : Int32) (z : tq_S) : Prop := ∀ v101 : Int32, v101 = a6 + (1 : Int32) → B21 v101 z
theorem ac_X7_fillRow_96 {K : Nat × (Nat → Int32)} {x : Nat} {Q : tq_O → tq_S → Prop} {B21 : Int32 → tq_S → Prop} {a6 : Int32} {z : tq_S} (hB21 : ∀ (b6 : Int32) (z : tq_S), B21 b6 z → tq_T K 3 x mm_X7_fillRow 21 [.ref 12, .null, .null, .null, .null, .ref 14, .int b6, .null] [] z Q) (h : wc_X7_fillRow_96 B21 Q a6 z) : tq_T K 3 x mm_X7_fillRow 96 [.ref 12, .null, .null, .null, .null, .ref 14, .int a6, .null] [] z Q := by
  unfold wc_X7_fillRow_96 at h
  refine tq_g_iinc (i := 6) (fun v101 => [.ref 12, .null, .null, .null, .null, .ref 14, .int v101, .null]) (by decide +kernel) rfl (1 : Int32) kc_1 (fun _ => rfl) (fun v101 ev101 => ?_)
  replace h := h v101 ev101
  refine tq_s_goto (off := -78) (tgt := 21) (by decide +kernel) (by decide +kernel) ?_
  exact hB21 _ _ h
def wb_X7_fillRow_36 (B21 : Int32 → tq_S → Prop) (B36 : Int32 → tq_S → Prop) (Q : tq_O → tq_S → Prop) (a6 : Int32) (a7 : Int32) (z : tq_S) : Prop := (((tq_fi z 64) < a7 → wc_X7_fillRow_96 B21 Q a6 z) ∧ (¬ (tq_fi z 64) < a7 → wm_X7_isCorner a7 a6 z (tq_wi fun r102 z101 => ((r102 = 0 → wc_X7_fillRow_90 B21 B36 Q a6 a7 z101) ∧ (¬ r102 = 0 → vp_in (((9 : Int32) * a6) + a7) 81 ∧ ((¬ (tq_ai z101 14 (Int32.toNatClampNeg (((9 : Int32) * a6) + a7))) = (-9999 : Int32) → wc_X7_fillRow_90 B21 B36 Q a6 a7 z101) ∧ ((tq_ai z101 14 (Int32.toNatClampNeg (((9 : Int32) * a6) + a7))) = (-9999 : Int32) → wm_X7_spread (((9 : Int32) * a6) + a7) z101 (tq_wv fun z103 => wc_X7_fillRow_90 B21 B36 Q a6 a7 z103))))))))
def wc_X7_fillRow_36 (B21 : Int32 → tq_S → Prop) (Q : tq_O → tq_S → Prop) (a6 : Int32) (a7 : Int32) (z : tq_S) : Prop := tq_lp (σ := Int32 × tq_S) (fun B s => wb_X7_fillRow_36 B21 (fun b7 z => B (b7, z)) Q a6 s.1 s.2) (a7, z)
theorem ab_X7_fillRow_36 {K : Nat × (Nat → Int32)} {x : Nat} {Q : tq_O → tq_S → Prop} {B21 : Int32 → tq_S → Prop} {B36 : Int32 → tq_S → Prop} {a6 : Int32} {a7 : Int32} {z : tq_S} (hB21 : ∀ (b6 : Int32) (z : tq_S), B21 b6 z → tq_T K 3 x mm_X7_fillRow 21 [.ref 12, .null, .null, .null, .null, .ref 14, .int b6, .null] [] z Q) (hB36 : ∀ (b7 : Int32) (z : tq_S), B36 b7 z → tq_T K 3 x mm_X7_fillRow 36 [.ref 12, .null, .null, .null, .null, .ref 14, .int a6, .int b7] [] z Q) (h : wb_X7_fillRow_36 B21 B36 Q a6 a7 z) : tq_T K 3 x mm_X7_fillRow 36 [.ref 12, .null, .null, .null, .null, .ref 14, .int a6, .int a7] [] z Q := by
  unfold wb_X7_fillRow_36 at h
  refine tq_s_iload (i := 7) (by decide +kernel) rfl ?_
  refine tq_s_aload_n (kk := 0) (by decide +kernel) rfl ?_
  refine fg_7_7_12 rfl (by decide +kernel) ?_
  refine fg_7_23_1 rfl (by decide +kernel) ?_
  refine tq_icmp_gt (off := 51) (tgt := 96) (by decide +kernel) (by decide +kernel) (fun hc => ?_) (fun hc => ?_)
  · replace h := h.1 hc
    exact tq_to (tq_lk1 (tq_lk1 (tq_lk1 (tq_lk1 (tq_lk1 (tq_lk1 (tq_lk1 (tq_ld1 tq_l0)))))))) (ac_X7_fillRow_96 hB21 h)
  · replace h := h.2 hc
    refine tq_s_aload_n (kk := 0) (by decide +kernel) rfl ?_
    refine tq_s_iload (i := 7) (by decide +kernel) rfl ?_
    refine tq_s_iload (i := 6) (by decide +kernel) rfl ?_
    refine tq_callV (as := [.int a7, .int a6]) (st := []) (d1 := 1) (x1 := 0) (x2 := x) (by decide +kernel) ln_7_59 mf_X7_isCorner rfl sh_12 rfl (by decide) np_X7_isCorner rfl (Nat.le_of_ble_eq_true rfl) (by decide) (Nat.zero_add _).symm (tq_M_mono (am_X7_isCorner h) ?_)
    refine tq_wi_e (fun r102 z101 h => ?_)
    refine tq_if_eq (off := 34) (tgt := 90) (by decide +kernel) (by decide +kernel) (fun hc => ?_) (fun hc => ?_)
    · replace h := h.1 hc
      exact ac_X7_fillRow_90 hB21 hB36 h
    · replace h := h.2 hc
      refine tq_s_aload (i := 5) (by decide +kernel) rfl ?_
      refine tq_k_bi (n := 9) (v := (9 : Int32)) (by decide +kernel) kb_9 ?_
      refine tq_s_iload (i := 6) (by decide +kernel) rfl ?_
      refine tq_s_imul (by decide +kernel) ?_
      refine tq_s_iload (i := 7) (by decide +kernel) rfl ?_
      refine tq_s_iadd (by decide +kernel) ?_
      refine tq_s_iald (by decide +kernel) sh_14 h.1 ?_
      replace h := h.2
      refine tq_k_si (n := -9999) (v := (-9999 : Int32)) (by decide +kernel) ks_m9999 ?_
      refine tq_icmp_ne (off := 17) (tgt := 90) (by decide +kernel) (by decide +kernel) (fun hc => ?_) (fun hc => ?_)
      · replace h := h.1 hc
        exact ac_X7_fillRow_90 hB21 hB36 h
      · replace h := h.2 hc
        refine tq_s_aload_n (kk := 0) (by decide +kernel) rfl ?_
        refine tq_k_bi (n := 9) (v := (9 : Int32)) (by decide +kernel) kb_9 ?_
        refine tq_s_iload (i := 6) (by decide +kernel) rfl ?_
        refine tq_s_imul (by decide +kernel) ?_
        refine tq_s_iload (i := 7) (by decide +kernel) rfl ?_
        refine tq_s_iadd (by decide +kernel) ?_
        refine tq_s_aload (i := 5) (by decide +kernel) rfl ?_
        refine tq_callV (as := [.int (((9 : Int32) * a6) + a7), .ref 14]) (st := []) (d1 := 2) (x1 := 0) (x2 := x) (by decide +kernel) ln_7_62 mf_X7_spread rfl sh_12 rfl (by decide) np_X7_spread rfl (Nat.le_of_ble_eq_true rfl) (by decide) (Nat.zero_add _).symm (tq_M_mono (am_X7_spread h) ?_)
        refine tq_wv_e (fun z103 h => ?_)
        exact ac_X7_fillRow_90 hB21 hB36 h
theorem ac_X7_fillRow_36 {K : Nat × (Nat → Int32)} {x : Nat} {Q : tq_O → tq_S → Prop} {B21 : Int32 → tq_S → Prop} {a6 : Int32} {a7 : Int32} {z : tq_S} (hB21 : ∀ (b6 : Int32) (z : tq_S), B21 b6 z → tq_T K 3 x mm_X7_fillRow 21 [.ref 12, .null, .null, .null, .null, .ref 14, .int b6, .null] [] z Q) (h : wc_X7_fillRow_36 B21 Q a6 a7 z) : tq_T K 3 x mm_X7_fillRow 36 [.ref 12, .null, .null, .null, .null, .ref 14, .int a6, .int a7] [] z Q :=
  tq_lp_T (σ := Int32 × tq_S) (s := (a7, z)) (G := fun s => tq_T K 3 x mm_X7_fillRow 36 [.ref 12, .null, .null, .null, .null, .ref 14, .int a6, .int s.1] [] s.2 Q) (fun B hB s h => ab_X7_fillRow_36 hB21 (fun b7 z h => hB (b7, z) h) h) h
def wb_X7_fillRow_21 (B21 : Int32 → tq_S → Prop) (Q : tq_O → tq_S → Prop) (a6 : Int32) (z : tq_S) : Prop := (((tq_fi z 65) < a6 → Q (.inl none) z) ∧ (¬ (tq_fi z 65) < a6 → wc_X7_fillRow_36 B21 Q a6 (0 : Int32) z))
def wc_X7_fillRow_21 (Q : tq_O → tq_S → Prop) (a6 : Int32) (z : tq_S) : Prop := tq_lp (σ := Int32 × tq_S) (fun B s => wb_X7_fillRow_21 (fun b6 z => B (b6, z)) Q s.1 s.2) (a6, z)
theorem ab_X7_fillRow_21 {K : Nat × (Nat → Int32)} {x : Nat} {Q : tq_O → tq_S → Prop} {B21 : Int32 → tq_S → Prop} {a6 : Int32} {z : tq_S} (hB21 : ∀ (b6 : Int32) (z : tq_S), B21 b6 z → tq_T K 3 x mm_X7_fillRow 21 [.ref 12, .null, .null, .null, .null, .ref 14, .int b6, .null] [] z Q) (h : wb_X7_fillRow_21 B21 Q a6 z) : tq_T K 3 x mm_X7_fillRow 21 [.ref 12, .null, .null, .null, .null, .ref 14, .int a6, .null] [] z Q := by
  unfold wb_X7_fillRow_21 at h
  refine tq_s_iload (i := 6) (by decide +kernel) rfl ?_
  refine tq_s_aload_n (kk := 0) (by decide +kernel) rfl ?_
  refine fg_7_7_12 rfl (by decide +kernel) ?_
  refine fg_7_29_1 rfl (by decide +kernel) ?_
  refine tq_icmp_gt (off := 72) (tgt := 102) (by decide +kernel) (by decide +kernel) (fun hc => ?_) (fun hc => ?_)
  · replace h := h.1 hc
    exact tq_ret_v (st := []) (by decide +kernel) rfl h
  · replace h := h.2 hc
    refine tq_k_ic (n := 0) (v := (0 : Int32)) (by decide +kernel) kc_0 ?_
    refine tq_s_istore (i := 7) (L9 := [.ref 12, .null, .null, .null, .null, .ref 14, .int a6, .int (0 : Int32)]) (by decide +kernel) (by decide) rfl ?_
    exact ac_X7_fillRow_36 hB21 h
theorem ac_X7_fillRow_21 {K : Nat × (Nat → Int32)} {x : Nat} {Q : tq_O → tq_S → Prop} {a6 : Int32} {z : tq_S} (h : wc_X7_fillRow_21 Q a6 z) : tq_T K 3 x mm_X7_fillRow 21 [.ref 12, .null, .null, .null, .null, .ref 14, .int a6, .null] [] z Q :=
  tq_lp_T (σ := Int32 × tq_S) (s := (a6, z)) (G := fun s => tq_T K 3 x mm_X7_fillRow 21 [.ref 12, .null, .null, .null, .null, .ref 14, .int s.1, .null] [] s.2 Q) (fun B hB s h => ab_X7_fillRow_21 (fun b6 z h => hB (b6, z) h) h) h
def wm_X7_fillRow (a1 : Int64) (a3 : Int64) (z : tq_S) (Q : tq_O → tq_S → Prop) : Prop := ∀ z1 : tq_S, z1 = tq_sfl z 772 a1 → ∀ z2 : tq_S, z2 = tq_sfl z1 773 a3 → wm_J7_fill_53178 (-9999 : Int32) z2 (tq_wv fun z3 => wc_X7_fillRow_21 Q (0 : Int32) z3)
theorem am_X7_fillRow {K : Nat × (Nat → Int32)} {x : Nat} {z : tq_S} {Q : tq_O → tq_S → Prop} {a1 : Int64} {a3 : Int64} (h : wm_X7_fillRow a1 a3 z Q) : tq_M K 3 x mm_X7_fillRow [.ref 12, .long a1, .long a3, .ref 14] z Q := by
  unfold wm_X7_fillRow at h
  refine tq_enter (L := [.ref 12, .long a1, .null, .long a3, .null, .ref 14, .null, .null]) mf_X7_fillRow.1 rfl rfl (Nat.le_of_ble_eq_true rfl) ?_
  refine tq_s_aload_n (kk := 0) (by decide +kernel) rfl ?_
  refine tq_s_lload_n (kk := 1) (by decide +kernel) rfl ?_
  refine fp_7_46_12 rfl (by decide +kernel) (fun z1 ez1 => ?_)
  replace h := h z1 ez1
  refine tq_s_aload_n (kk := 0) (by decide +kernel) rfl ?_
  refine tq_s_lload_n (kk := 3) (by decide +kernel) rfl ?_
  refine fp_7_50_12 rfl (by decide +kernel) (fun z2 ez2 => ?_)
  replace h := h z2 ez2
  refine tq_s_aload (i := 5) (by decide +kernel) rfl ?_
  refine tq_k_si (n := -9999) (v := (-9999 : Int32)) (by decide +kernel) ks_m9999 ?_
  refine tq_callS (as := [.ref 14, .int (-9999 : Int32)]) (st := []) (d1 := 0) (x1 := 0) (x2 := x) (by decide +kernel) ln_7_53 mf_J7_fill_53178 rfl (by decide) np_J7_fill_53178 rfl (Nat.le_of_ble_eq_true rfl) (by decide) (Nat.zero_add _).symm (tq_M_mono (am_J7_fill_53178 h) ?_)
  refine tq_wv_e (fun z3 h => ?_)
  refine tq_k_ic (n := 0) (v := (0 : Int32)) (by decide +kernel) kc_0 ?_
  refine tq_s_istore (i := 6) (L9 := [.ref 12, .long a1, .null, .long a3, .null, .ref 14, .int (0 : Int32), .null]) (by decide +kernel) (by decide) rfl ?_
  exact tq_to (tq_lk1 (tq_ld1 (tq_lk1 (tq_ld1 (tq_lk1 (tq_lk1 (tq_lk1 (tq_lk1 tq_l0)))))))) (ac_X7_fillRow_21 h)
def wm_X7_fillKept (a1 : Int64) (a3 : Int64) (z : tq_S) (Q : tq_O → tq_S → Prop) : Prop := wm_X7_fillRow a1 a3 z (tq_wv fun z1 => Q (.inl none) z1)
theorem am_X7_fillKept {K : Nat × (Nat → Int32)} {x : Nat} {z : tq_S} {Q : tq_O → tq_S → Prop} {a1 : Int64} {a3 : Int64} (h : wm_X7_fillKept a1 a3 z Q) : tq_M K 4 x mm_X7_fillKept [.ref 12, .long a1, .long a3] z Q := by
  unfold wm_X7_fillKept at h
  refine tq_enter (L := [.ref 12, .long a1, .null, .long a3, .null]) mf_X7_fillKept.1 rfl rfl (Nat.le_of_ble_eq_true rfl) ?_
  refine tq_s_aload_n (kk := 0) (by decide +kernel) rfl ?_
  refine tq_s_lload_n (kk := 1) (by decide +kernel) rfl ?_
  refine tq_s_lload_n (kk := 3) (by decide +kernel) rfl ?_
  refine tq_s_aload_n (kk := 0) (by decide +kernel) rfl ?_
  refine fg_7_17_12 rfl (by decide +kernel) ?_
  refine tq_callV (as := [.long a1, .long a3, .ref 14]) (st := []) (d1 := 3) (x1 := 0) (x2 := x) (by decide +kernel) ln_7_36 mf_X7_fillRow rfl sh_12 rfl (by decide) np_X7_fillRow rfl (Nat.le_of_ble_eq_true rfl) (by decide) (Nat.zero_add _).symm (tq_M_mono (am_X7_fillRow h) ?_)
  refine tq_wv_e (fun z1 h => ?_)
  exact tq_ret_v (st := []) (by decide +kernel) rfl h
def wb_J7_fill_53178_r1_5 (B5 : Int32 → tq_S → Prop) (Q : tq_O → tq_S → Prop) (a1 : Int32) (a2 : Int32) (a3 : Int32) (z : tq_S) : Prop := ((a3 ≤ a2 → Q (.inl none) z) ∧ (¬ a3 ≤ a2 → vp_in a2 81 ∧ ∀ z101 : tq_S, z101 = tq_sai z 13 (upd (tq_ai z 13) (Int32.toNatClampNeg a2) a1) → ∀ v102 : Int32, v102 = a2 + (1 : Int32) → B5 v102 z101))
def wc_J7_fill_53178_r1_5 (Q : tq_O → tq_S → Prop) (a1 : Int32) (a2 : Int32) (a3 : Int32) (z : tq_S) : Prop := tq_lp (σ := Int32 × tq_S) (fun B s => wb_J7_fill_53178_r1_5 (fun b2 z => B (b2, z)) Q a1 s.1 a3 s.2) (a2, z)
theorem ab_J7_fill_53178_r1_5 {K : Nat × (Nat → Int32)} {x : Nat} {Q : tq_O → tq_S → Prop} {B5 : Int32 → tq_S → Prop} {a1 : Int32} {a2 : Int32} {a3 : Int32} {z : tq_S} (hB5 : ∀ (b2 : Int32) (z : tq_S), B5 b2 z → tq_T K 0 x mm_J7_fill_53178 5 [.ref 13, .int a1, .int b2, .int a3] [] z Q) (h : wb_J7_fill_53178_r1_5 B5 Q a1 a2 a3 z) : tq_T K 0 x mm_J7_fill_53178 5 [.ref 13, .int a1, .int a2, .int a3] [] z Q := by
  unfold wb_J7_fill_53178_r1_5 at h
  refine tq_s_iload_n (kk := 2) (by decide +kernel) rfl ?_
  refine tq_s_iload_n (kk := 3) (by decide +kernel) rfl ?_
  refine tq_icmp_ge (off := 13) (tgt := 20) (by decide +kernel) (by decide +kernel) (fun hc => ?_) (fun hc => ?_)
  · replace h := h.1 hc
    exact tq_ret_v (st := []) (by decide +kernel) rfl h
  · replace h := h.2 hc
    refine tq_s_aload_n (kk := 0) (by decide +kernel) rfl ?_
    refine tq_s_iload_n (kk := 2) (by decide +kernel) rfl ?_
    refine tq_s_iload_n (kk := 1) (by decide +kernel) rfl ?_
    refine tq_g_iast (by decide +kernel) sh_13 h.1 (fun z101 ez101 => ?_)
    replace h := h.2 z101 ez101
    refine tq_g_iinc (i := 2) (fun v102 => [.ref 13, .int a1, .int v102, .int a3]) (by decide +kernel) rfl (1 : Int32) kc_1 (fun _ => rfl) (fun v102 ev102 => ?_)
    replace h := h v102 ev102
    refine tq_s_goto (off := -12) (tgt := 5) (by decide +kernel) (by decide +kernel) ?_
    exact hB5 _ _ h
theorem ac_J7_fill_53178_r1_5 {K : Nat × (Nat → Int32)} {x : Nat} {Q : tq_O → tq_S → Prop} {a1 : Int32} {a2 : Int32} {a3 : Int32} {z : tq_S} (h : wc_J7_fill_53178_r1_5 Q a1 a2 a3 z) : tq_T K 0 x mm_J7_fill_53178 5 [.ref 13, .int a1, .int a2, .int a3] [] z Q :=
  tq_lp_T (σ := Int32 × tq_S) (s := (a2, z)) (G := fun s => tq_T K 0 x mm_J7_fill_53178 5 [.ref 13, .int a1, .int s.1, .int a3] [] s.2 Q) (fun B hB s h => ab_J7_fill_53178_r1_5 (fun b2 z h => hB (b2, z) h) h) h
def wm_J7_fill_53178_r1 (a1 : Int32) (z : tq_S) (Q : tq_O → tq_S → Prop) : Prop := ∀ v1 : Int32, v1 = (Int32.ofNat 81) → wc_J7_fill_53178_r1_5 Q a1 (0 : Int32) v1 z
theorem am_J7_fill_53178_r1 {K : Nat × (Nat → Int32)} {x : Nat} {z : tq_S} {Q : tq_O → tq_S → Prop} {a1 : Int32} (h : wm_J7_fill_53178_r1 a1 z Q) : tq_M K 0 x mm_J7_fill_53178 [.ref 13, .int a1] z Q := by
  unfold wm_J7_fill_53178_r1 at h
  refine tq_enter (L := [.ref 13, .int a1, .null, .null]) mf_J7_fill_53178.1 rfl rfl (Nat.le_of_ble_eq_true rfl) ?_
  refine tq_k_ic (n := 0) (v := (0 : Int32)) (by decide +kernel) kc_0 ?_
  refine tq_s_istore_n (kk := 2) (L9 := [.ref 13, .int a1, .int (0 : Int32), .null]) (by decide +kernel) (by decide) rfl ?_
  refine tq_s_aload_n (kk := 0) (by decide +kernel) rfl ?_
  refine tq_s_alen (by decide +kernel) sh_13 (by decide) ?_
  refine tq_g_istore_n (kk := 3) (fun v1 => [.ref 13, .int a1, .int (0 : Int32), .int v1]) (by decide +kernel) (by decide) (fun _ => rfl) (fun v1 ev1 => ?_)
  replace h := h v1 ev1
  exact ac_J7_fill_53178_r1_5 h
def wm_X7_reach_r1 (a1 : Int32) (a2 : Int32) (a3 : Int32) (a4 : Int32) (z : tq_S) (Q : tq_O → tq_S → Prop) : Prop := ∀ v1 : Int32, v1 = (a1 + a2) → ((a3 = 0 → Q (.inl (some (.int a4))) z) ∧ (¬ a3 = 0 → ((v1 < 0 → Q (.inl (some (.int a4))) z) ∧ (¬ v1 < 0 → (((81 : Int32) ≤ v1 → Q (.inl (some (.int a4))) z) ∧ (¬ (81 : Int32) ≤ v1 → vp_in v1 81 ∧ ((¬ (tq_ai z 13 (Int32.toNatClampNeg v1)) = (-9999 : Int32) → Q (.inl (some (.int a4))) z) ∧ ((tq_ai z 13 (Int32.toNatClampNeg v1)) = (-9999 : Int32) → ((a4 < (81 : Int32) → vp_in a1 81 ∧ vp_in v1 81 ∧ ∀ z2 : tq_S, z2 = tq_sai z 13 (upd (tq_ai z 13) (Int32.toNatClampNeg v1) ((tq_ai z 13 (Int32.toNatClampNeg a1)) + a3)) → vp_in a4 81 ∧ ∀ z3 : tq_S, z3 = tq_sai z2 15 (upd (tq_ai z2 15) (Int32.toNatClampNeg a4) v1) → Q (.inl (some (.int (a4 + (1 : Int32))))) z3) ∧ (¬ a4 < (81 : Int32) → Q (.inl (some (.int a4))) z))))))))))
theorem am_X7_reach_r1 {K : Nat × (Nat → Int32)} {x : Nat} {z : tq_S} {Q : tq_O → tq_S → Prop} {a1 : Int32} {a2 : Int32} {a3 : Int32} {a4 : Int32} (h : wm_X7_reach_r1 a1 a2 a3 a4 z Q) : tq_M K 0 x mm_X7_reach [.ref 12, .int a1, .int a2, .int a3, .int a4, .ref 13] z Q := by
  unfold wm_X7_reach_r1 at h
  refine tq_enter (L := [.ref 12, .int a1, .int a2, .int a3, .int a4, .ref 13, .null]) mf_X7_reach.1 rfl rfl (Nat.le_of_ble_eq_true rfl) ?_
  refine tq_s_iload_n (kk := 1) (by decide +kernel) rfl ?_
  refine tq_s_iload_n (kk := 2) (by decide +kernel) rfl ?_
  refine tq_s_iadd (by decide +kernel) ?_
  refine tq_g_istore (i := 6) (fun v1 => [.ref 12, .int a1, .int a2, .int a3, .int a4, .ref 13, .int v1]) (by decide +kernel) (by decide) (fun _ => rfl) (fun v1 ev1 => ?_)
  replace h := h v1 ev1
  refine tq_s_iload_n (kk := 3) (by decide +kernel) rfl ?_
  refine tq_if_eq (off := 33) (tgt := 39) (by decide +kernel) (by decide +kernel) (fun hc => ?_) (fun hc => ?_)
  · replace h := h.1 hc
    refine tq_s_iload (i := 4) (by decide +kernel) rfl ?_
    exact tq_ret_i (st := []) (by decide +kernel) rfl h
  · replace h := h.2 hc
    refine tq_s_iload (i := 6) (by decide +kernel) rfl ?_
    refine tq_if_lt (off := 28) (tgt := 39) (by decide +kernel) (by decide +kernel) (fun hc => ?_) (fun hc => ?_)
    · replace h := h.1 hc
      refine tq_s_iload (i := 4) (by decide +kernel) rfl ?_
      exact tq_ret_i (st := []) (by decide +kernel) rfl h
    · replace h := h.2 hc
      refine tq_s_iload (i := 6) (by decide +kernel) rfl ?_
      refine tq_k_bi (n := 81) (v := (81 : Int32)) (by decide +kernel) kb_81 ?_
      refine tq_icmp_ge (off := 21) (tgt := 39) (by decide +kernel) (by decide +kernel) (fun hc => ?_) (fun hc => ?_)
      · replace h := h.1 hc
        refine tq_s_iload (i := 4) (by decide +kernel) rfl ?_
        exact tq_ret_i (st := []) (by decide +kernel) rfl h
      · replace h := h.2 hc
        refine tq_s_aload (i := 5) (by decide +kernel) rfl ?_
        refine tq_s_iload (i := 6) (by decide +kernel) rfl ?_
        refine tq_s_iald (by decide +kernel) sh_13 h.1 ?_
        replace h := h.2
        refine tq_k_si (n := -9999) (v := (-9999 : Int32)) (by decide +kernel) ks_m9999 ?_
        refine tq_icmp_ne (off := 10) (tgt := 39) (by decide +kernel) (by decide +kernel) (fun hc => ?_) (fun hc => ?_)
        · replace h := h.1 hc
          refine tq_s_iload (i := 4) (by decide +kernel) rfl ?_
          exact tq_ret_i (st := []) (by decide +kernel) rfl h
        · replace h := h.2 hc
          refine tq_s_iload (i := 4) (by decide +kernel) rfl ?_
          refine tq_k_bi (n := 81) (v := (81 : Int32)) (by decide +kernel) kb_81 ?_
          refine tq_icmp_lt (off := 6) (tgt := 42) (by decide +kernel) (by decide +kernel) (fun hc => ?_) (fun hc => ?_)
          · replace h := h.1 hc
            refine tq_s_aload (i := 5) (by decide +kernel) rfl ?_
            refine tq_s_iload (i := 6) (by decide +kernel) rfl ?_
            refine tq_s_aload (i := 5) (by decide +kernel) rfl ?_
            refine tq_s_iload_n (kk := 1) (by decide +kernel) rfl ?_
            refine tq_s_iald (by decide +kernel) sh_13 h.1 ?_
            replace h := h.2
            refine tq_s_iload_n (kk := 3) (by decide +kernel) rfl ?_
            refine tq_s_iadd (by decide +kernel) ?_
            refine tq_g_iast (by decide +kernel) sh_13 h.1 (fun z2 ez2 => ?_)
            replace h := h.2 z2 ez2
            refine tq_s_aload_n (kk := 0) (by decide +kernel) rfl ?_
            refine fg_7_20_12 rfl (by decide +kernel) ?_
            refine tq_s_iload (i := 4) (by decide +kernel) rfl ?_
            refine tq_s_iload (i := 6) (by decide +kernel) rfl ?_
            refine tq_g_iast (by decide +kernel) sh_15 h.1 (fun z3 ez3 => ?_)
            replace h := h.2 z3 ez3
            refine tq_s_iload (i := 4) (by decide +kernel) rfl ?_
            refine tq_k_ic (n := 1) (v := (1 : Int32)) (by decide +kernel) kc_1 ?_
            refine tq_s_iadd (by decide +kernel) ?_
            exact tq_ret_i (st := []) (by decide +kernel) rfl h
          · replace h := h.2 hc
            refine tq_s_iload (i := 4) (by decide +kernel) rfl ?_
            exact tq_ret_i (st := []) (by decide +kernel) rfl h
def wb_X7_spread_r1_16 (B16 : Int32 → Int32 → tq_S → Prop) (Q : tq_O → tq_S → Prop) (a3 : Int32) (a4 : Int32) (z : tq_S) : Prop := ((a3 ≤ a4 → Q (.inl none) z) ∧ (¬ a3 ≤ a4 → (((81 : Int32) ≤ a4 → Q (.inl none) z) ∧ (¬ (81 : Int32) ≤ a4 → vp_in a4 81 ∧ ∀ v101 : Int32, v101 = ((tq_ai z 15 (Int32.toNatClampNeg a4)) - (tq_ai z 15 (Int32.toNatClampNeg a4)) / (9 : Int32) * (9 : Int32)) → vp_in a4 81 ∧ ∀ v102 : Int32, v102 = ((tq_ai z 15 (Int32.toNatClampNeg a4)) / (9 : Int32)) → vp_in a4 81 ∧ wm_X7_riseRight v101 v102 z (tq_wi fun r104 z103 => wm_X7_reach_r1 (tq_ai z 15 (Int32.toNatClampNeg a4)) (1 : Int32) r104 a3 z103 (tq_wi fun r106 z105 => vp_in a4 81 ∧ wm_X7_riseDown v101 v102 z105 (tq_wi fun r108 z107 => wm_X7_reach_r1 (tq_ai z105 15 (Int32.toNatClampNeg a4)) (9 : Int32) r108 r106 z107 (tq_wi fun r110 z109 => vp_in a4 81 ∧ wm_X7_riseRight (v101 - (1 : Int32)) v102 z109 (tq_wi fun r112 z111 => wm_X7_reach_r1 (tq_ai z109 15 (Int32.toNatClampNeg a4)) (-1 : Int32) (-r112) r110 z111 (tq_wi fun r114 z113 => vp_in a4 81 ∧ wm_X7_riseDown v101 (v102 - (1 : Int32)) z113 (tq_wi fun r116 z115 => wm_X7_reach_r1 (tq_ai z113 15 (Int32.toNatClampNeg a4)) (-9 : Int32) (-r116) r114 z115 (tq_wi fun r118 z117 => ∀ v119 : Int32, v119 = a4 + (1 : Int32) → B16 r118 v119 z117))))))))))))
def wc_X7_spread_r1_16 (Q : tq_O → tq_S → Prop) (a3 : Int32) (a4 : Int32) (z : tq_S) : Prop := tq_lp (σ := Int32 × Int32 × tq_S) (fun B s => wb_X7_spread_r1_16 (fun b3 b4 z => B (b3, b4, z)) Q s.1 s.2.1 s.2.2) (a3, a4, z)
theorem ab_X7_spread_r1_16 {K : Nat × (Nat → Int32)} {x : Nat} {Q : tq_O → tq_S → Prop} {B16 : Int32 → Int32 → tq_S → Prop} {a3 : Int32} {a4 : Int32} {z : tq_S} (hB16 : ∀ (b3 : Int32) (b4 : Int32) (z : tq_S), B16 b3 b4 z → tq_T K 2 x mm_X7_spread 16 [.ref 12, .null, .ref 13, .int b3, .int b4, .null, .null] [] z Q) (h : wb_X7_spread_r1_16 B16 Q a3 a4 z) : tq_T K 2 x mm_X7_spread 16 [.ref 12, .null, .ref 13, .int a3, .int a4, .null, .null] [] z Q := by
  unfold wb_X7_spread_r1_16 at h
  refine tq_s_iload (i := 4) (by decide +kernel) rfl ?_
  refine tq_s_iload_n (kk := 3) (by decide +kernel) rfl ?_
  refine tq_icmp_ge (off := 140) (tgt := 159) (by decide +kernel) (by decide +kernel) (fun hc => ?_) (fun hc => ?_)
  · replace h := h.1 hc
    exact tq_ret_v (st := []) (by decide +kernel) rfl h
  · replace h := h.2 hc
    refine tq_s_iload (i := 4) (by decide +kernel) rfl ?_
    refine tq_k_bi (n := 81) (v := (81 : Int32)) (by decide +kernel) kb_81 ?_
    refine tq_icmp_ge (off := 133) (tgt := 159) (by decide +kernel) (by decide +kernel) (fun hc => ?_) (fun hc => ?_)
    · replace h := h.1 hc
      exact tq_ret_v (st := []) (by decide +kernel) rfl h
    · replace h := h.2 hc
      refine tq_s_aload_n (kk := 0) (by decide +kernel) rfl ?_
      refine fg_7_20_12 rfl (by decide +kernel) ?_
      refine tq_s_iload (i := 4) (by decide +kernel) rfl ?_
      refine tq_s_iald (by decide +kernel) sh_15 h.1 ?_
      replace h := h.2
      refine tq_k_bi (n := 9) (v := (9 : Int32)) (by decide +kernel) kb_9 ?_
      refine tq_s_irem (by decide +kernel) (by decide +kernel) ?_
      refine tq_g_istore (i := 5) (fun v101 => [.ref 12, .null, .ref 13, .int a3, .int a4, .int v101, .null]) (by decide +kernel) (by decide) (fun _ => rfl) (fun v101 ev101 => ?_)
      replace h := h v101 ev101
      refine tq_s_aload_n (kk := 0) (by decide +kernel) rfl ?_
      refine fg_7_20_12 rfl (by decide +kernel) ?_
      refine tq_s_iload (i := 4) (by decide +kernel) rfl ?_
      refine tq_s_iald (by decide +kernel) sh_15 h.1 ?_
      replace h := h.2
      refine tq_k_bi (n := 9) (v := (9 : Int32)) (by decide +kernel) kb_9 ?_
      refine tq_s_idiv (by decide +kernel) (by decide +kernel) ?_
      refine tq_g_istore (i := 6) (fun v102 => [.ref 12, .null, .ref 13, .int a3, .int a4, .int v101, .int v102]) (by decide +kernel) (by decide) (fun _ => rfl) (fun v102 ev102 => ?_)
      replace h := h v102 ev102
      refine tq_s_aload_n (kk := 0) (by decide +kernel) rfl ?_
      refine tq_s_aload_n (kk := 0) (by decide +kernel) rfl ?_
      refine fg_7_20_12 rfl (by decide +kernel) ?_
      refine tq_s_iload (i := 4) (by decide +kernel) rfl ?_
      refine tq_s_iald (by decide +kernel) sh_15 h.1 ?_
      replace h := h.2
      refine tq_k_ic (n := 1) (v := (1 : Int32)) (by decide +kernel) kc_1 ?_
      refine tq_s_aload_n (kk := 0) (by decide +kernel) rfl ?_
      refine tq_s_iload (i := 5) (by decide +kernel) rfl ?_
      refine tq_s_iload (i := 6) (by decide +kernel) rfl ?_
      refine tq_callV (as := [.int v101, .int v102]) (st := [.int (1 : Int32), .int (tq_ai z 15 (Int32.toNatClampNeg a4)), .ref 12]) (d1 := 1) (x1 := 0) (x2 := x) (by decide +kernel) ln_7_66 mf_X7_riseRight rfl sh_12 rfl (by decide) np_X7_riseRight rfl (Nat.le_of_ble_eq_true rfl) (by decide) (Nat.zero_add _).symm (tq_M_mono (am_X7_riseRight h) ?_)
      refine tq_wi_e (fun r104 z103 h => ?_)
      refine tq_s_iload_n (kk := 3) (by decide +kernel) rfl ?_
      refine tq_s_aload_n (kk := 2) (by decide +kernel) rfl ?_
      refine tq_callV (as := [.int (tq_ai z 15 (Int32.toNatClampNeg a4)), .int (1 : Int32), .int r104, .int a3, .ref 13]) (st := []) (d1 := 0) (x1 := 0) (x2 := x) (by decide +kernel) ln_7_70 mf_X7_reach rfl sh_12 rfl (by decide) np_X7_reach rfl (Nat.le_of_ble_eq_true rfl) (by decide) (Nat.zero_add _).symm (tq_M_mono (am_X7_reach_r1 h) ?_)
      refine tq_wi_e (fun r106 z105 h => ?_)
      refine tq_s_istore_n (kk := 3) (L9 := [.ref 12, .null, .ref 13, .int r106, .int a4, .int v101, .int v102]) (by decide +kernel) (by decide) rfl ?_
      refine tq_s_aload_n (kk := 0) (by decide +kernel) rfl ?_
      refine tq_s_aload_n (kk := 0) (by decide +kernel) rfl ?_
      refine fg_7_20_12 rfl (by decide +kernel) ?_
      refine tq_s_iload (i := 4) (by decide +kernel) rfl ?_
      refine tq_s_iald (by decide +kernel) sh_15 h.1 ?_
      replace h := h.2
      refine tq_k_bi (n := 9) (v := (9 : Int32)) (by decide +kernel) kb_9 ?_
      refine tq_s_aload_n (kk := 0) (by decide +kernel) rfl ?_
      refine tq_s_iload (i := 5) (by decide +kernel) rfl ?_
      refine tq_s_iload (i := 6) (by decide +kernel) rfl ?_
      refine tq_callV (as := [.int v101, .int v102]) (st := [.int (9 : Int32), .int (tq_ai z105 15 (Int32.toNatClampNeg a4)), .ref 12]) (d1 := 1) (x1 := 0) (x2 := x) (by decide +kernel) ln_7_74 mf_X7_riseDown rfl sh_12 rfl (by decide) np_X7_riseDown rfl (Nat.le_of_ble_eq_true rfl) (by decide) (Nat.zero_add _).symm (tq_M_mono (am_X7_riseDown h) ?_)
      refine tq_wi_e (fun r108 z107 h => ?_)
      refine tq_s_iload_n (kk := 3) (by decide +kernel) rfl ?_
      refine tq_s_aload_n (kk := 2) (by decide +kernel) rfl ?_
      refine tq_callV (as := [.int (tq_ai z105 15 (Int32.toNatClampNeg a4)), .int (9 : Int32), .int r108, .int r106, .ref 13]) (st := []) (d1 := 0) (x1 := 0) (x2 := x) (by decide +kernel) ln_7_70 mf_X7_reach rfl sh_12 rfl (by decide) np_X7_reach rfl (Nat.le_of_ble_eq_true rfl) (by decide) (Nat.zero_add _).symm (tq_M_mono (am_X7_reach_r1 h) ?_)
      refine tq_wi_e (fun r110 z109 h => ?_)
      refine tq_s_istore_n (kk := 3) (L9 := [.ref 12, .null, .ref 13, .int r110, .int a4, .int v101, .int v102]) (by decide +kernel) (by decide) rfl ?_
      refine tq_s_aload_n (kk := 0) (by decide +kernel) rfl ?_
      refine tq_s_aload_n (kk := 0) (by decide +kernel) rfl ?_
      refine fg_7_20_12 rfl (by decide +kernel) ?_
      refine tq_s_iload (i := 4) (by decide +kernel) rfl ?_
      refine tq_s_iald (by decide +kernel) sh_15 h.1 ?_
      replace h := h.2
      refine tq_k_ic (n := -1) (v := (-1 : Int32)) (by decide +kernel) kc_m1 ?_
      refine tq_s_aload_n (kk := 0) (by decide +kernel) rfl ?_
      refine tq_s_iload (i := 5) (by decide +kernel) rfl ?_
      refine tq_k_ic (n := 1) (v := (1 : Int32)) (by decide +kernel) kc_1 ?_
      refine tq_s_isub (by decide +kernel) ?_
      refine tq_s_iload (i := 6) (by decide +kernel) rfl ?_
      refine tq_callV (as := [.int (v101 - (1 : Int32)), .int v102]) (st := [.int (-1 : Int32), .int (tq_ai z109 15 (Int32.toNatClampNeg a4)), .ref 12]) (d1 := 1) (x1 := 0) (x2 := x) (by decide +kernel) ln_7_66 mf_X7_riseRight rfl sh_12 rfl (by decide) np_X7_riseRight rfl (Nat.le_of_ble_eq_true rfl) (by decide) (Nat.zero_add _).symm (tq_M_mono (am_X7_riseRight h) ?_)
      refine tq_wi_e (fun r112 z111 h => ?_)
      refine tq_s_ineg (by decide +kernel) ?_
      refine tq_s_iload_n (kk := 3) (by decide +kernel) rfl ?_
      refine tq_s_aload_n (kk := 2) (by decide +kernel) rfl ?_
      refine tq_callV (as := [.int (tq_ai z109 15 (Int32.toNatClampNeg a4)), .int (-1 : Int32), .int (-r112), .int r110, .ref 13]) (st := []) (d1 := 0) (x1 := 0) (x2 := x) (by decide +kernel) ln_7_70 mf_X7_reach rfl sh_12 rfl (by decide) np_X7_reach rfl (Nat.le_of_ble_eq_true rfl) (by decide) (Nat.zero_add _).symm (tq_M_mono (am_X7_reach_r1 h) ?_)
      refine tq_wi_e (fun r114 z113 h => ?_)
      refine tq_s_istore_n (kk := 3) (L9 := [.ref 12, .null, .ref 13, .int r114, .int a4, .int v101, .int v102]) (by decide +kernel) (by decide) rfl ?_
      refine tq_s_aload_n (kk := 0) (by decide +kernel) rfl ?_
      refine tq_s_aload_n (kk := 0) (by decide +kernel) rfl ?_
      refine fg_7_20_12 rfl (by decide +kernel) ?_
      refine tq_s_iload (i := 4) (by decide +kernel) rfl ?_
      refine tq_s_iald (by decide +kernel) sh_15 h.1 ?_
      replace h := h.2
      refine tq_k_bi (n := -9) (v := (-9 : Int32)) (by decide +kernel) kb_m9 ?_
      refine tq_s_aload_n (kk := 0) (by decide +kernel) rfl ?_
      refine tq_s_iload (i := 5) (by decide +kernel) rfl ?_
      refine tq_s_iload (i := 6) (by decide +kernel) rfl ?_
      refine tq_k_ic (n := 1) (v := (1 : Int32)) (by decide +kernel) kc_1 ?_
      refine tq_s_isub (by decide +kernel) ?_
      refine tq_callV (as := [.int v101, .int (v102 - (1 : Int32))]) (st := [.int (-9 : Int32), .int (tq_ai z113 15 (Int32.toNatClampNeg a4)), .ref 12]) (d1 := 1) (x1 := 0) (x2 := x) (by decide +kernel) ln_7_74 mf_X7_riseDown rfl sh_12 rfl (by decide) np_X7_riseDown rfl (Nat.le_of_ble_eq_true rfl) (by decide) (Nat.zero_add _).symm (tq_M_mono (am_X7_riseDown h) ?_)
      refine tq_wi_e (fun r116 z115 h => ?_)
      refine tq_s_ineg (by decide +kernel) ?_
      refine tq_s_iload_n (kk := 3) (by decide +kernel) rfl ?_
      refine tq_s_aload_n (kk := 2) (by decide +kernel) rfl ?_
      refine tq_callV (as := [.int (tq_ai z113 15 (Int32.toNatClampNeg a4)), .int (-9 : Int32), .int (-r116), .int r114, .ref 13]) (st := []) (d1 := 0) (x1 := 0) (x2 := x) (by decide +kernel) ln_7_70 mf_X7_reach rfl sh_12 rfl (by decide) np_X7_reach rfl (Nat.le_of_ble_eq_true rfl) (by decide) (Nat.zero_add _).symm (tq_M_mono (am_X7_reach_r1 h) ?_)
      refine tq_wi_e (fun r118 z117 h => ?_)
      refine tq_s_istore_n (kk := 3) (L9 := [.ref 12, .null, .ref 13, .int r118, .int a4, .int v101, .int v102]) (by decide +kernel) (by decide) rfl ?_
      refine tq_g_iinc (i := 4) (fun v119 => [.ref 12, .null, .ref 13, .int r118, .int v119, .int v101, .int v102]) (by decide +kernel) rfl (1 : Int32) kc_1 (fun _ => rfl) (fun v119 ev119 => ?_)
      replace h := h v119 ev119
      refine tq_s_goto (off := -140) (tgt := 16) (by decide +kernel) (by decide +kernel) ?_
      exact tq_to (tq_lk1 (tq_lk1 (tq_lk1 (tq_lk1 (tq_lk1 (tq_ld1 (tq_ld1 tq_l0))))))) (hB16 _ _ _ h)
theorem ac_X7_spread_r1_16 {K : Nat × (Nat → Int32)} {x : Nat} {Q : tq_O → tq_S → Prop} {a3 : Int32} {a4 : Int32} {z : tq_S} (h : wc_X7_spread_r1_16 Q a3 a4 z) : tq_T K 2 x mm_X7_spread 16 [.ref 12, .null, .ref 13, .int a3, .int a4, .null, .null] [] z Q :=
  tq_lp_T (σ := Int32 × Int32 × tq_S) (s := (a3, a4, z)) (G := fun s => tq_T K 2 x mm_X7_spread 16 [.ref 12, .null, .ref 13, .int s.1, .int s.2.1, .null, .null] [] s.2.2 Q) (fun B hB s h => ab_X7_spread_r1_16 (fun b3 b4 z h => hB (b3, b4, z) h) h) h
def wm_X7_spread_r1 (a1 : Int32) (z : tq_S) (Q : tq_O → tq_S → Prop) : Prop := vp_in a1 81 ∧ ∀ z1 : tq_S, z1 = tq_sai z 13 (upd (tq_ai z 13) (Int32.toNatClampNeg a1) (0 : Int32)) → ∀ z2 : tq_S, z2 = tq_sai z1 15 (upd (tq_ai z1 15) (Int32.toNatClampNeg (0 : Int32)) a1) → wc_X7_spread_r1_16 Q (1 : Int32) (0 : Int32) z2
theorem am_X7_spread_r1 {K : Nat × (Nat → Int32)} {x : Nat} {z : tq_S} {Q : tq_O → tq_S → Prop} {a1 : Int32} (h : wm_X7_spread_r1 a1 z Q) : tq_M K 2 x mm_X7_spread [.ref 12, .int a1, .ref 13] z Q := by
  unfold wm_X7_spread_r1 at h
  refine tq_enter (L := [.ref 12, .int a1, .ref 13, .null, .null, .null, .null]) mf_X7_spread.1 rfl rfl (Nat.le_of_ble_eq_true rfl) ?_
  refine tq_s_aload_n (kk := 2) (by decide +kernel) rfl ?_
  refine tq_s_iload_n (kk := 1) (by decide +kernel) rfl ?_
  refine tq_k_ic (n := 0) (v := (0 : Int32)) (by decide +kernel) kc_0 ?_
  refine tq_g_iast (by decide +kernel) sh_13 h.1 (fun z1 ez1 => ?_)
  replace h := h.2 z1 ez1
  refine tq_s_aload_n (kk := 0) (by decide +kernel) rfl ?_
  refine fg_7_20_12 rfl (by decide +kernel) ?_
  refine tq_k_ic (n := 0) (v := (0 : Int32)) (by decide +kernel) kc_0 ?_
  refine tq_s_iload_n (kk := 1) (by decide +kernel) rfl ?_
  refine tq_g_iast (by decide +kernel) sh_15 vi_0_81 (fun z2 ez2 => ?_)
  replace h := h z2 ez2
  refine tq_k_ic (n := 1) (v := (1 : Int32)) (by decide +kernel) kc_1 ?_
  refine tq_s_istore_n (kk := 3) (L9 := [.ref 12, .int a1, .ref 13, .int (1 : Int32), .null, .null, .null]) (by decide +kernel) (by decide) rfl ?_
  refine tq_k_ic (n := 0) (v := (0 : Int32)) (by decide +kernel) kc_0 ?_
  refine tq_s_istore (i := 4) (L9 := [.ref 12, .int a1, .ref 13, .int (1 : Int32), .int (0 : Int32), .null, .null]) (by decide +kernel) (by decide) rfl ?_
  exact tq_to (tq_lk1 (tq_ld1 (tq_lk1 (tq_lk1 (tq_lk1 (tq_lk1 (tq_lk1 tq_l0))))))) (ac_X7_spread_r1_16 h)
def wc_X7_fillRow_r1_90 (B21 : Int32 → tq_S → Prop) (B36 : Int32 → tq_S → Prop) (Q : tq_O → tq_S → Prop) (a6 : Int32) (a7 : Int32) (z : tq_S) : Prop := ∀ v101 : Int32, v101 = a7 + (1 : Int32) → B36 v101 z
theorem ac_X7_fillRow_r1_90 {K : Nat × (Nat → Int32)} {x : Nat} {Q : tq_O → tq_S → Prop} {B21 : Int32 → tq_S → Prop} {B36 : Int32 → tq_S → Prop} {a6 : Int32} {a7 : Int32} {z : tq_S} (hB21 : ∀ (b6 : Int32) (z : tq_S), B21 b6 z → tq_T K 3 x mm_X7_fillRow 21 [.ref 12, .null, .null, .null, .null, .ref 13, .int b6, .null] [] z Q) (hB36 : ∀ (b7 : Int32) (z : tq_S), B36 b7 z → tq_T K 3 x mm_X7_fillRow 36 [.ref 12, .null, .null, .null, .null, .ref 13, .int a6, .int b7] [] z Q) (h : wc_X7_fillRow_r1_90 B21 B36 Q a6 a7 z) : tq_T K 3 x mm_X7_fillRow 90 [.ref 12, .null, .null, .null, .null, .ref 13, .int a6, .int a7] [] z Q := by
  unfold wc_X7_fillRow_r1_90 at h
  refine tq_g_iinc (i := 7) (fun v101 => [.ref 12, .null, .null, .null, .null, .ref 13, .int a6, .int v101]) (by decide +kernel) rfl (1 : Int32) kc_1 (fun _ => rfl) (fun v101 ev101 => ?_)
  replace h := h v101 ev101
  refine tq_s_goto (off := -57) (tgt := 36) (by decide +kernel) (by decide +kernel) ?_
  exact hB36 _ _ h
def wc_X7_fillRow_r1_96 (B21 : Int32 → tq_S → Prop) (Q : tq_O → tq_S → Prop) (a6 : Int32) (z : tq_S) : Prop := ∀ v101 : Int32, v101 = a6 + (1 : Int32) → B21 v101 z
theorem ac_X7_fillRow_r1_96 {K : Nat × (Nat → Int32)} {x : Nat} {Q : tq_O → tq_S → Prop} {B21 : Int32 → tq_S → Prop} {a6 : Int32} {z : tq_S} (hB21 : ∀ (b6 : Int32) (z : tq_S), B21 b6 z → tq_T K 3 x mm_X7_fillRow 21 [.ref 12, .null, .null, .null, .null, .ref 13, .int b6, .null] [] z Q) (h : wc_X7_fillRow_r1_96 B21 Q a6 z) : tq_T K 3 x mm_X7_fillRow 96 [.ref 12, .null, .null, .null, .null, .ref 13, .int a6, .null] [] z Q := by
  unfold wc_X7_fillRow_r1_96 at h
  refine tq_g_iinc (i := 6) (fun v101 => [.ref 12, .null, .null, .null, .null, .ref 13, .int v101, .null]) (by decide +kernel) rfl (1 : Int32) kc_1 (fun _ => rfl) (fun v101 ev101 => ?_)
  replace h := h v101 ev101
  refine tq_s_goto (off := -78) (tgt := 21) (by decide +kernel) (by decide +kernel) ?_
  exact hB21 _ _ h
def wb_X7_fillRow_r1_36 (B21 : Int32 → tq_S → Prop) (B36 : Int32 → tq_S → Prop) (Q : tq_O → tq_S → Prop) (a6 : Int32) (a7 : Int32) (z : tq_S) : Prop := (((tq_fi z 64) < a7 → wc_X7_fillRow_r1_96 B21 Q a6 z) ∧ (¬ (tq_fi z 64) < a7 → wm_X7_isCorner a7 a6 z (tq_wi fun r102 z101 => ((r102 = 0 → wc_X7_fillRow_r1_90 B21 B36 Q a6 a7 z101) ∧ (¬ r102 = 0 → vp_in (((9 : Int32) * a6) + a7) 81 ∧ ((¬ (tq_ai z101 13 (Int32.toNatClampNeg (((9 : Int32) * a6) + a7))) = (-9999 : Int32) → wc_X7_fillRow_r1_90 B21 B36 Q a6 a7 z101) ∧ ((tq_ai z101 13 (Int32.toNatClampNeg (((9 : Int32) * a6) + a7))) = (-9999 : Int32) → wm_X7_spread_r1 (((9 : Int32) * a6) + a7) z101 (tq_wv fun z103 => wc_X7_fillRow_r1_90 B21 B36 Q a6 a7 z103))))))))
def wc_X7_fillRow_r1_36 (B21 : Int32 → tq_S → Prop) (Q : tq_O → tq_S → Prop) (a6 : Int32) (a7 : Int32) (z : tq_S) : Prop := tq_lp (σ := Int32 × tq_S) (fun B s => wb_X7_fillRow_r1_36 B21 (fun b7 z => B (b7, z)) Q a6 s.1 s.2) (a7, z)
theorem ab_X7_fillRow_r1_36 {K : Nat × (Nat → Int32)} {x : Nat} {Q : tq_O → tq_S → Prop} {B21 : Int32 → tq_S → Prop} {B36 : Int32 → tq_S → Prop} {a6 : Int32} {a7 : Int32} {z : tq_S} (hB21 : ∀ (b6 : Int32) (z : tq_S), B21 b6 z → tq_T K 3 x mm_X7_fillRow 21 [.ref 12, .null, .null, .null, .null, .ref 13, .int b6, .null] [] z Q) (hB36 : ∀ (b7 : Int32) (z : tq_S), B36 b7 z → tq_T K 3 x mm_X7_fillRow 36 [.ref 12, .null, .null, .null, .null, .ref 13, .int a6, .int b7] [] z Q) (h : wb_X7_fillRow_r1_36 B21 B36 Q a6 a7 z) : tq_T K 3 x mm_X7_fillRow 36 [.ref 12, .null, .null, .null, .null, .ref 13, .int a6, .int a7] [] z Q := by
  unfold wb_X7_fillRow_r1_36 at h
  refine tq_s_iload (i := 7) (by decide +kernel) rfl ?_
  refine tq_s_aload_n (kk := 0) (by decide +kernel) rfl ?_
  refine fg_7_7_12 rfl (by decide +kernel) ?_
  refine fg_7_23_1 rfl (by decide +kernel) ?_
  refine tq_icmp_gt (off := 51) (tgt := 96) (by decide +kernel) (by decide +kernel) (fun hc => ?_) (fun hc => ?_)
  · replace h := h.1 hc
    exact tq_to (tq_lk1 (tq_lk1 (tq_lk1 (tq_lk1 (tq_lk1 (tq_lk1 (tq_lk1 (tq_ld1 tq_l0)))))))) (ac_X7_fillRow_r1_96 hB21 h)
  · replace h := h.2 hc
    refine tq_s_aload_n (kk := 0) (by decide +kernel) rfl ?_
    refine tq_s_iload (i := 7) (by decide +kernel) rfl ?_
    refine tq_s_iload (i := 6) (by decide +kernel) rfl ?_
    refine tq_callV (as := [.int a7, .int a6]) (st := []) (d1 := 1) (x1 := 0) (x2 := x) (by decide +kernel) ln_7_59 mf_X7_isCorner rfl sh_12 rfl (by decide) np_X7_isCorner rfl (Nat.le_of_ble_eq_true rfl) (by decide) (Nat.zero_add _).symm (tq_M_mono (am_X7_isCorner h) ?_)
    refine tq_wi_e (fun r102 z101 h => ?_)
    refine tq_if_eq (off := 34) (tgt := 90) (by decide +kernel) (by decide +kernel) (fun hc => ?_) (fun hc => ?_)
    · replace h := h.1 hc
      exact ac_X7_fillRow_r1_90 hB21 hB36 h
    · replace h := h.2 hc
      refine tq_s_aload (i := 5) (by decide +kernel) rfl ?_
      refine tq_k_bi (n := 9) (v := (9 : Int32)) (by decide +kernel) kb_9 ?_
      refine tq_s_iload (i := 6) (by decide +kernel) rfl ?_
      refine tq_s_imul (by decide +kernel) ?_
      refine tq_s_iload (i := 7) (by decide +kernel) rfl ?_
      refine tq_s_iadd (by decide +kernel) ?_
      refine tq_s_iald (by decide +kernel) sh_13 h.1 ?_
      replace h := h.2
      refine tq_k_si (n := -9999) (v := (-9999 : Int32)) (by decide +kernel) ks_m9999 ?_
      refine tq_icmp_ne (off := 17) (tgt := 90) (by decide +kernel) (by decide +kernel) (fun hc => ?_) (fun hc => ?_)
      · replace h := h.1 hc
        exact ac_X7_fillRow_r1_90 hB21 hB36 h
      · replace h := h.2 hc
        refine tq_s_aload_n (kk := 0) (by decide +kernel) rfl ?_
        refine tq_k_bi (n := 9) (v := (9 : Int32)) (by decide +kernel) kb_9 ?_
        refine tq_s_iload (i := 6) (by decide +kernel) rfl ?_
        refine tq_s_imul (by decide +kernel) ?_
        refine tq_s_iload (i := 7) (by decide +kernel) rfl ?_
        refine tq_s_iadd (by decide +kernel) ?_
        refine tq_s_aload (i := 5) (by decide +kernel) rfl ?_
        refine tq_callV (as := [.int (((9 : Int32) * a6) + a7), .ref 13]) (st := []) (d1 := 2) (x1 := 0) (x2 := x) (by decide +kernel) ln_7_62 mf_X7_spread rfl sh_12 rfl (by decide) np_X7_spread rfl (Nat.le_of_ble_eq_true rfl) (by decide) (Nat.zero_add _).symm (tq_M_mono (am_X7_spread_r1 h) ?_)
        refine tq_wv_e (fun z103 h => ?_)
        exact ac_X7_fillRow_r1_90 hB21 hB36 h
theorem ac_X7_fillRow_r1_36 {K : Nat × (Nat → Int32)} {x : Nat} {Q : tq_O → tq_S → Prop} {B21 : Int32 → tq_S → Prop} {a6 : Int32} {a7 : Int32} {z : tq_S} (hB21 : ∀ (b6 : Int32) (z : tq_S), B21 b6 z → tq_T K 3 x mm_X7_fillRow 21 [.ref 12, .null, .null, .null, .null, .ref 13, .int b6, .null] [] z Q) (h : wc_X7_fillRow_r1_36 B21 Q a6 a7 z) : tq_T K 3 x mm_X7_fillRow 36 [.ref 12, .null, .null, .null, .null, .ref 13, .int a6, .int a7] [] z Q :=
  tq_lp_T (σ := Int32 × tq_S) (s := (a7, z)) (G := fun s => tq_T K 3 x mm_X7_fillRow 36 [.ref 12, .null, .null, .null, .null, .ref 13, .int a6, .int s.1] [] s.2 Q) (fun B hB s h => ab_X7_fillRow_r1_36 hB21 (fun b7 z h => hB (b7, z) h) h) h
def wb_X7_fillRow_r1_21 (B21 : Int32 → tq_S → Prop) (Q : tq_O → tq_S → Prop) (a6 : Int32) (z : tq_S) : Prop := (((tq_fi z 65) < a6 → Q (.inl none) z) ∧ (¬ (tq_fi z 65) < a6 → wc_X7_fillRow_r1_36 B21 Q a6 (0 : Int32) z))
def wc_X7_fillRow_r1_21 (Q : tq_O → tq_S → Prop) (a6 : Int32) (z : tq_S) : Prop := tq_lp (σ := Int32 × tq_S) (fun B s => wb_X7_fillRow_r1_21 (fun b6 z => B (b6, z)) Q s.1 s.2) (a6, z)
theorem ab_X7_fillRow_r1_21 {K : Nat × (Nat → Int32)} {x : Nat} {Q : tq_O → tq_S → Prop} {B21 : Int32 → tq_S → Prop} {a6 : Int32} {z : tq_S} (hB21 : ∀ (b6 : Int32) (z : tq_S), B21 b6 z → tq_T K 3 x mm_X7_fillRow 21 [.ref 12, .null, .null, .null, .null, .ref 13, .int b6, .null] [] z Q) (h : wb_X7_fillRow_r1_21 B21 Q a6 z) : tq_T K 3 x mm_X7_fillRow 21 [.ref 12, .null, .null, .null, .null, .ref 13, .int a6, .null] [] z Q := by
  unfold wb_X7_fillRow_r1_21 at h
  refine tq_s_iload (i := 6) (by decide +kernel) rfl ?_
  refine tq_s_aload_n (kk := 0) (by decide +kernel) rfl ?_
  refine fg_7_7_12 rfl (by decide +kernel) ?_
  refine fg_7_29_1 rfl (by decide +kernel) ?_
  refine tq_icmp_gt (off := 72) (tgt := 102) (by decide +kernel) (by decide +kernel) (fun hc => ?_) (fun hc => ?_)
  · replace h := h.1 hc
    exact tq_ret_v (st := []) (by decide +kernel) rfl h
  · replace h := h.2 hc
    refine tq_k_ic (n := 0) (v := (0 : Int32)) (by decide +kernel) kc_0 ?_
    refine tq_s_istore (i := 7) (L9 := [.ref 12, .null, .null, .null, .null, .ref 13, .int a6, .int (0 : Int32)]) (by decide +kernel) (by decide) rfl ?_
    exact ac_X7_fillRow_r1_36 hB21 h
theorem ac_X7_fillRow_r1_21 {K : Nat × (Nat → Int32)} {x : Nat} {Q : tq_O → tq_S → Prop} {a6 : Int32} {z : tq_S} (h : wc_X7_fillRow_r1_21 Q a6 z) : tq_T K 3 x mm_X7_fillRow 21 [.ref 12, .null, .null, .null, .null, .ref 13, .int a6, .null] [] z Q :=
  tq_lp_T (σ := Int32 × tq_S) (s := (a6, z)) (G := fun s => tq_T K 3 x mm_X7_fillRow 21 [.ref 12, .null, .null, .null, .null, .ref 13, .int s.1, .null] [] s.2 Q) (fun B hB s h => ab_X7_fillRow_r1_21 (fun b6 z h => hB (b6, z) h) h) h
def wm_X7_fillRow_r1 (a1 : Int64) (a3 : Int64) (z : tq_S) (Q : tq_O → tq_S → Prop) : Prop := ∀ z1 : tq_S, z1 = tq_sfl z 772 a1 → ∀ z2 : tq_S, z2 = tq_sfl z1 773 a3 → wm_J7_fill_53178_r1 (-9999 : Int32) z2 (tq_wv fun z3 => wc_X7_fillRow_r1_21 Q (0 : Int32) z3)
theorem am_X7_fillRow_r1 {K : Nat × (Nat → Int32)} {x : Nat} {z : tq_S} {Q : tq_O → tq_S → Prop} {a1 : Int64} {a3 : Int64} (h : wm_X7_fillRow_r1 a1 a3 z Q) : tq_M K 3 x mm_X7_fillRow [.ref 12, .long a1, .long a3, .ref 13] z Q := by
  unfold wm_X7_fillRow_r1 at h
  refine tq_enter (L := [.ref 12, .long a1, .null, .long a3, .null, .ref 13, .null, .null]) mf_X7_fillRow.1 rfl rfl (Nat.le_of_ble_eq_true rfl) ?_
  refine tq_s_aload_n (kk := 0) (by decide +kernel) rfl ?_
  refine tq_s_lload_n (kk := 1) (by decide +kernel) rfl ?_
  refine fp_7_46_12 rfl (by decide +kernel) (fun z1 ez1 => ?_)
  replace h := h z1 ez1
  refine tq_s_aload_n (kk := 0) (by decide +kernel) rfl ?_
  refine tq_s_lload_n (kk := 3) (by decide +kernel) rfl ?_
  refine fp_7_50_12 rfl (by decide +kernel) (fun z2 ez2 => ?_)
  replace h := h z2 ez2
  refine tq_s_aload (i := 5) (by decide +kernel) rfl ?_
  refine tq_k_si (n := -9999) (v := (-9999 : Int32)) (by decide +kernel) ks_m9999 ?_
  refine tq_callS (as := [.ref 13, .int (-9999 : Int32)]) (st := []) (d1 := 0) (x1 := 0) (x2 := x) (by decide +kernel) ln_7_53 mf_J7_fill_53178 rfl (by decide) np_J7_fill_53178 rfl (Nat.le_of_ble_eq_true rfl) (by decide) (Nat.zero_add _).symm (tq_M_mono (am_J7_fill_53178_r1 h) ?_)
  refine tq_wv_e (fun z3 h => ?_)
  refine tq_k_ic (n := 0) (v := (0 : Int32)) (by decide +kernel) kc_0 ?_
  refine tq_s_istore (i := 6) (L9 := [.ref 12, .long a1, .null, .long a3, .null, .ref 13, .int (0 : Int32), .null]) (by decide +kernel) (by decide) rfl ?_
  exact tq_to (tq_lk1 (tq_ld1 (tq_lk1 (tq_ld1 (tq_lk1 (tq_lk1 (tq_lk1 (tq_lk1 tq_l0)))))))) (ac_X7_fillRow_r1_21 h)
def wm_J9_abs_0f7a4 (a0 : Int32) (z : tq_S) (Q : tq_O → tq_S → Prop) : Prop := ((0 ≤ a0 → Q (.inl (some (.int a0))) z) ∧ (¬ 0 ≤ a0 → Q (.inl (some (.int (-a0)))) z))
theorem am_J9_abs_0f7a4 {K : Nat × (Nat → Int32)} {x : Nat} {z : tq_S} {Q : tq_O → tq_S → Prop} {a0 : Int32} (h : wm_J9_abs_0f7a4 a0 z Q) : tq_M K 0 x mm_J9_abs_0f7a4 [.int a0] z Q := by
  unfold wm_J9_abs_0f7a4 at h
  refine tq_enter (L := [.int a0]) mf_J9_abs_0f7a4.1 rfl rfl (Nat.le_of_ble_eq_true rfl) ?_
  refine tq_s_iload_n (kk := 0) (by decide +kernel) rfl ?_
  refine tq_if_ge (off := 8) (tgt := 9) (by decide +kernel) (by decide +kernel) (fun hc => ?_) (fun hc => ?_)
  · replace h := h.1 hc
    refine tq_s_iload_n (kk := 0) (by decide +kernel) rfl ?_
    exact tq_ret_i (st := []) (by decide +kernel) rfl h
  · replace h := h.2 hc
    refine tq_s_iload_n (kk := 0) (by decide +kernel) rfl ?_
    refine tq_s_ineg (by decide +kernel) ?_
    refine tq_s_goto (off := 4) (tgt := 10) (by decide +kernel) (by decide +kernel) ?_
    exact tq_ret_i (st := []) (by decide +kernel) rfl h
def wb_X7_flipsFromKept_16 (B16 : Int32 → Int32 → tq_S → Prop) (Q : tq_O → tq_S → Prop) (a5 : Int32) (a6 : Int32) (z : tq_S) : Prop := (((81 : Int32) ≤ a6 → Q (.inl (some (.int (a5 / (4 : Int32))))) z) ∧ (¬ (81 : Int32) ≤ a6 → vp_in a6 81 ∧ vp_in a6 81 ∧ wm_J9_abs_0f7a4 ((tq_ai z 13 (Int32.toNatClampNeg a6)) - (tq_ai z 14 (Int32.toNatClampNeg a6))) z (tq_wi fun r102 z101 => ∀ v103 : Int32, v103 = (a5 + r102) → ∀ v104 : Int32, v104 = a6 + (1 : Int32) → B16 v103 v104 z101)))
def wc_X7_flipsFromKept_16 (Q : tq_O → tq_S → Prop) (a5 : Int32) (a6 : Int32) (z : tq_S) : Prop := tq_lp (σ := Int32 × Int32 × tq_S) (fun B s => wb_X7_flipsFromKept_16 (fun b5 b6 z => B (b5, b6, z)) Q s.1 s.2.1 s.2.2) (a5, a6, z)
theorem ab_X7_flipsFromKept_16 {K : Nat × (Nat → Int32)} {x : Nat} {Q : tq_O → tq_S → Prop} {B16 : Int32 → Int32 → tq_S → Prop} {a5 : Int32} {a6 : Int32} {z : tq_S} (hB16 : ∀ (b5 : Int32) (b6 : Int32) (z : tq_S), B16 b5 b6 z → tq_T K 4 x mm_X7_flipsFromKept 16 [.ref 12, .null, .null, .null, .null, .int b5, .int b6] [] z Q) (h : wb_X7_flipsFromKept_16 B16 Q a5 a6 z) : tq_T K 4 x mm_X7_flipsFromKept 16 [.ref 12, .null, .null, .null, .null, .int a5, .int a6] [] z Q := by
  unfold wb_X7_flipsFromKept_16 at h
  refine tq_s_iload (i := 6) (by decide +kernel) rfl ?_
  refine tq_k_bi (n := 81) (v := (81 : Int32)) (by decide +kernel) kb_81 ?_
  refine tq_icmp_ge (off := 32) (tgt := 52) (by decide +kernel) (by decide +kernel) (fun hc => ?_) (fun hc => ?_)
  · replace h := h.1 hc
    refine tq_s_iload (i := 5) (by decide +kernel) rfl ?_
    refine tq_k_ic (n := 4) (v := (4 : Int32)) (by decide +kernel) kc_4 ?_
    refine tq_s_idiv (by decide +kernel) (by decide +kernel) ?_
    exact tq_ret_i (st := []) (by decide +kernel) rfl h
  · replace h := h.2 hc
    refine tq_s_iload (i := 5) (by decide +kernel) rfl ?_
    refine tq_s_aload_n (kk := 0) (by decide +kernel) rfl ?_
    refine fg_7_13_12 rfl (by decide +kernel) ?_
    refine tq_s_iload (i := 6) (by decide +kernel) rfl ?_
    refine tq_s_iald (by decide +kernel) sh_13 h.1 ?_
    replace h := h.2
    refine tq_s_aload_n (kk := 0) (by decide +kernel) rfl ?_
    refine fg_7_17_12 rfl (by decide +kernel) ?_
    refine tq_s_iload (i := 6) (by decide +kernel) rfl ?_
    refine tq_s_iald (by decide +kernel) sh_14 h.1 ?_
    replace h := h.2
    refine tq_s_isub (by decide +kernel) ?_
    refine tq_callS (as := [.int ((tq_ai z 13 (Int32.toNatClampNeg a6)) - (tq_ai z 14 (Int32.toNatClampNeg a6)))]) (st := [.int a5]) (d1 := 0) (x1 := 0) (x2 := x) (by decide +kernel) ln_7_40 mf_J9_abs_0f7a4 rfl (by decide) np_J9_abs_0f7a4 rfl (Nat.le_of_ble_eq_true rfl) (by decide) (Nat.zero_add _).symm (tq_M_mono (am_J9_abs_0f7a4 h) ?_)
    refine tq_wi_e (fun r102 z101 h => ?_)
    refine tq_s_iadd (by decide +kernel) ?_
    refine tq_g_istore (i := 5) (fun v103 => [.ref 12, .null, .null, .null, .null, .int v103, .int a6]) (by decide +kernel) (by decide) (fun _ => rfl) (fun v103 ev103 => ?_)
    replace h := h v103 ev103
    refine tq_g_iinc (i := 6) (fun v104 => [.ref 12, .null, .null, .null, .null, .int v103, .int v104]) (by decide +kernel) rfl (1 : Int32) kc_1 (fun _ => rfl) (fun v104 ev104 => ?_)
    replace h := h v104 ev104
    refine tq_s_goto (off := -33) (tgt := 16) (by decide +kernel) (by decide +kernel) ?_
    exact hB16 _ _ _ h
theorem ac_X7_flipsFromKept_16 {K : Nat × (Nat → Int32)} {x : Nat} {Q : tq_O → tq_S → Prop} {a5 : Int32} {a6 : Int32} {z : tq_S} (h : wc_X7_flipsFromKept_16 Q a5 a6 z) : tq_T K 4 x mm_X7_flipsFromKept 16 [.ref 12, .null, .null, .null, .null, .int a5, .int a6] [] z Q :=
  tq_lp_T (σ := Int32 × Int32 × tq_S) (s := (a5, a6, z)) (G := fun s => tq_T K 4 x mm_X7_flipsFromKept 16 [.ref 12, .null, .null, .null, .null, .int s.1, .int s.2.1] [] s.2.2 Q) (fun B hB s h => ab_X7_flipsFromKept_16 (fun b5 b6 z h => hB (b5, b6, z) h) h) h
def wm_X7_flipsFromKept (a1 : Int64) (a3 : Int64) (z : tq_S) (Q : tq_O → tq_S → Prop) : Prop := wm_X7_fillRow_r1 a1 a3 z (tq_wv fun z1 => wc_X7_flipsFromKept_16 Q (0 : Int32) (0 : Int32) z1)
theorem am_X7_flipsFromKept {K : Nat × (Nat → Int32)} {x : Nat} {z : tq_S} {Q : tq_O → tq_S → Prop} {a1 : Int64} {a3 : Int64} (h : wm_X7_flipsFromKept a1 a3 z Q) : tq_M K 4 x mm_X7_flipsFromKept [.ref 12, .long a1, .long a3] z Q := by
  unfold wm_X7_flipsFromKept at h
  refine tq_enter (L := [.ref 12, .long a1, .null, .long a3, .null, .null, .null]) mf_X7_flipsFromKept.1 rfl rfl (Nat.le_of_ble_eq_true rfl) ?_
  refine tq_s_aload_n (kk := 0) (by decide +kernel) rfl ?_
  refine tq_s_lload_n (kk := 1) (by decide +kernel) rfl ?_
  refine tq_s_lload_n (kk := 3) (by decide +kernel) rfl ?_
  refine tq_s_aload_n (kk := 0) (by decide +kernel) rfl ?_
  refine fg_7_13_12 rfl (by decide +kernel) ?_
  refine tq_callV (as := [.long a1, .long a3, .ref 13]) (st := []) (d1 := 3) (x1 := 0) (x2 := x) (by decide +kernel) ln_7_36 mf_X7_fillRow rfl sh_12 rfl (by decide) np_X7_fillRow rfl (Nat.le_of_ble_eq_true rfl) (by decide) (Nat.zero_add _).symm (tq_M_mono (am_X7_fillRow_r1 h) ?_)
  refine tq_wv_e (fun z1 h => ?_)
  refine tq_k_ic (n := 0) (v := (0 : Int32)) (by decide +kernel) kc_0 ?_
  refine tq_s_istore (i := 5) (L9 := [.ref 12, .long a1, .null, .long a3, .null, .int (0 : Int32), .null]) (by decide +kernel) (by decide) rfl ?_
  refine tq_k_ic (n := 0) (v := (0 : Int32)) (by decide +kernel) kc_0 ?_
  refine tq_s_istore (i := 6) (L9 := [.ref 12, .long a1, .null, .long a3, .null, .int (0 : Int32), .int (0 : Int32)]) (by decide +kernel) (by decide) rfl ?_
  exact tq_to (tq_lk1 (tq_ld1 (tq_lk1 (tq_ld1 (tq_lk1 (tq_lk1 (tq_lk1 tq_l0))))))) (ac_X7_flipsFromKept_16 h)
def wc_X11_apart_40 (Q : tq_O → tq_S → Prop)  (z : tq_S) : Prop := Q (.inr 5) z
theorem ac_X11_apart_40 {K : Nat × (Nat → Int32)} {Q : tq_O → tq_S → Prop}  {z : tq_S} (h : wc_X11_apart_40 Q z) : tq_T K 5 1 mm_X11_apart 40 [.null] [] z Q := by
  unfold wc_X11_apart_40 at h
  exact tq_throwNW th_11_223_296 rfl (by decide +kernel) (by decide +kernel) (by decide +kernel) (by decide +kernel) (by decide +kernel) (Nat.le_of_ble_eq_true rfl) rfl (Nat.le_refl 1) h
def wm_X11_apart  (z : tq_S) (Q : tq_O → tq_S → Prop) : Prop := wm_X1_isPlain z (tq_wi fun r2 z1 => ((¬ r2 = 0 → (((tq_fi z1 516) = 0 → wc_X11_apart_40 Q z1) ∧ (¬ (tq_fi z1 516) = 0 → ((¬ (tq_fi z1 519) = 0 → wm_X7_fillKept (tq_fl z1 520) (tq_fl z1 521) z1 (tq_wv fun z3 => wm_X7_flipsFromKept (tq_fl z3 517) (tq_fl z3 518) z3 (tq_wi fun r5 z4 => Q (.inl (some (.int r5))) z4))) ∧ ((tq_fi z1 519) = 0 → wc_X11_apart_40 Q z1))))) ∧ (r2 = 0 → Q (.inr 4) z1)))
theorem am_X11_apart {K : Nat × (Nat → Int32)} {z : tq_S} {Q : tq_O → tq_S → Prop}  (h : wm_X11_apart z Q) : tq_M K 5 1 mm_X11_apart [.ref 0] z Q := by
  unfold wm_X11_apart at h
  refine tq_enter (L := [.ref 0]) mf_X11_apart.1 rfl rfl (Nat.le_of_ble_eq_true rfl) ?_
  refine tq_s_aload_n (kk := 0) (by decide +kernel) rfl ?_
  refine fg_11_10_0 rfl (by decide +kernel) ?_
  refine tq_callVN (as := []) (st := []) (d1 := 4) (x1 := 0) (x2 := 1) (by decide +kernel) ln_11_199 mf_X1_isPlain rfl sh_1 rfl (by decide) np_X1_isPlain rfl (Nat.le_of_ble_eq_true rfl) (by decide) (Nat.zero_add _).symm (tq_M_mono (am_X1_isPlain h) ?_)
  refine tq_wi_e (fun r2 z1 h => ?_)
  refine tq_if_ne (off := 13) (tgt := 20) (by decide +kernel) (by decide +kernel) (fun hc => ?_) (fun hc => ?_)
  · replace h := h.1 hc
    refine tq_s_aload_n (kk := 0) (by decide +kernel) rfl ?_
    refine fg_11_28_0 rfl (by decide +kernel) ?_
    refine fg_11_238_8 rfl (by decide +kernel) ?_
    refine tq_if_eq (off := 13) (tgt := 40) (by decide +kernel) (by decide +kernel) (fun hc => ?_) (fun hc => ?_)
    · replace h := h.1 hc
      exact tq_to (tq_ld1 tq_l0) (ac_X11_apart_40 h)
    · replace h := h.2 hc
      refine tq_s_aload_n (kk := 0) (by decide +kernel) rfl ?_
      refine fg_11_28_0 rfl (by decide +kernel) ?_
      refine fg_11_293_8 rfl (by decide +kernel) ?_
      refine tq_if_ne (off := 14) (tgt := 51) (by decide +kernel) (by decide +kernel) (fun hc => ?_) (fun hc => ?_)
      · replace h := h.1 hc
        refine tq_s_aload_n (kk := 0) (by decide +kernel) rfl ?_
        refine fg_11_35_0 rfl (by decide +kernel) ?_
        refine tq_s_aload_n (kk := 0) (by decide +kernel) rfl ?_
        refine fg_11_28_0 rfl (by decide +kernel) ?_
        refine fg_11_298_8 rfl (by decide +kernel) ?_
        refine tq_s_aload_n (kk := 0) (by decide +kernel) rfl ?_
        refine fg_11_28_0 rfl (by decide +kernel) ?_
        refine fg_11_301_8 rfl (by decide +kernel) ?_
        refine tq_callVN (as := [.long (tq_fl z1 520), .long (tq_fl z1 521)]) (st := []) (d1 := 4) (x1 := 0) (x2 := 1) (by decide +kernel) ln_11_304 mf_X7_fillKept rfl sh_12 rfl (by decide) np_X7_fillKept rfl (Nat.le_of_ble_eq_true rfl) (by decide) (Nat.zero_add _).symm (tq_M_mono (am_X7_fillKept h) ?_)
        refine tq_wv_e (fun z3 h => ?_)
        refine tq_s_aload_n (kk := 0) (by decide +kernel) rfl ?_
        refine fg_11_35_0 rfl (by decide +kernel) ?_
        refine tq_s_aload_n (kk := 0) (by decide +kernel) rfl ?_
        refine fg_11_28_0 rfl (by decide +kernel) ?_
        refine fg_11_243_8 rfl (by decide +kernel) ?_
        refine tq_s_aload_n (kk := 0) (by decide +kernel) rfl ?_
        refine fg_11_28_0 rfl (by decide +kernel) ?_
        refine fg_11_246_8 rfl (by decide +kernel) ?_
        refine tq_callVN (as := [.long (tq_fl z3 517), .long (tq_fl z3 518)]) (st := []) (d1 := 4) (x1 := 0) (x2 := 1) (by decide +kernel) ln_11_307 mf_X7_flipsFromKept rfl sh_12 rfl (by decide) np_X7_flipsFromKept rfl (Nat.le_of_ble_eq_true rfl) (by decide) (Nat.zero_add _).symm (tq_M_mono (am_X7_flipsFromKept h) ?_)
        refine tq_wi_e (fun r5 z4 h => ?_)
        exact tq_ret_i (st := []) (by decide +kernel) rfl h
      · replace h := h.2 hc
        exact tq_to (tq_ld1 tq_l0) (ac_X11_apart_40 h)
  · replace h := h.2 hc
    exact tq_throwS th_11_159_202 rfl (by decide +kernel) (by decide +kernel) (by decide +kernel) (by decide +kernel) (by decide +kernel) (Nat.le_of_ble_eq_true rfl) rfl (Nat.le_refl 1) h
def wm_X11_cuts  (z : tq_S) (Q : tq_O → tq_S → Prop) : Prop := ((¬ (tq_fi z 516) = 0 → wm_X2_countCuts z (tq_wi fun r2 z1 => Q (.inl (some (.int r2))) z1)) ∧ ((tq_fi z 516) = 0 → Q (.inr 5) z))
theorem am_X11_cuts {K : Nat × (Nat → Int32)} {z : tq_S} {Q : tq_O → tq_S → Prop}  (h : wm_X11_cuts z Q) : tq_M K 1 1 mm_X11_cuts [.ref 0] z Q := by
  unfold wm_X11_cuts at h
  refine tq_enter (L := [.ref 0]) mf_X11_cuts.1 rfl rfl (Nat.le_of_ble_eq_true rfl) ?_
  refine tq_s_aload_n (kk := 0) (by decide +kernel) rfl ?_
  refine fg_11_28_0 rfl (by decide +kernel) ?_
  refine fg_11_238_8 rfl (by decide +kernel) ?_
  refine tq_if_ne (off := 13) (tgt := 20) (by decide +kernel) (by decide +kernel) (fun hc => ?_) (fun hc => ?_)
  · replace h := h.1 hc
    refine tq_s_aload_n (kk := 0) (by decide +kernel) rfl ?_
    refine fg_11_28_0 rfl (by decide +kernel) ?_
    refine tq_callVN (as := []) (st := []) (d1 := 0) (x1 := 0) (x2 := 1) (by decide +kernel) ln_11_290 mf_X2_countCuts rfl sh_8 rfl (by decide) np_X2_countCuts rfl (Nat.le_of_ble_eq_true rfl) (by decide) (Nat.zero_add _).symm (tq_M_mono (am_X2_countCuts h) ?_)
    refine tq_wi_e (fun r2 z1 h => ?_)
    exact tq_ret_i (st := []) (by decide +kernel) rfl h
  · replace h := h.2 hc
    exact tq_throwN th_11_223_241 rfl (by decide +kernel) (by decide +kernel) (by decide +kernel) (by decide +kernel) (by decide +kernel) (Nat.le_of_ble_eq_true rfl) rfl (Nat.le_refl 1) h
def wb_J7_fill_53178_r2_5 (B5 : Int32 → tq_S → Prop) (Q : tq_O → tq_S → Prop) (a1 : Int32) (a2 : Int32) (a3 : Int32) (z : tq_S) : Prop := ((a3 ≤ a2 → Q (.inl none) z) ∧ (¬ a3 ≤ a2 → vp_in a2 64 ∧ ∀ z101 : tq_S, z101 = tq_sai z 20 (upd (tq_ai z 20) (Int32.toNatClampNeg a2) a1) → ∀ v102 : Int32, v102 = a2 + (1 : Int32) → B5 v102 z101))
def wc_J7_fill_53178_r2_5 (Q : tq_O → tq_S → Prop) (a1 : Int32) (a2 : Int32) (a3 : Int32) (z : tq_S) : Prop := tq_lp (σ := Int32 × tq_S) (fun B s => wb_J7_fill_53178_r2_5 (fun b2 z => B (b2, z)) Q a1 s.1 a3 s.2) (a2, z)
theorem ab_J7_fill_53178_r2_5 {K : Nat × (Nat → Int32)} {x : Nat} {Q : tq_O → tq_S → Prop} {B5 : Int32 → tq_S → Prop} {a1 : Int32} {a2 : Int32} {a3 : Int32} {z : tq_S} (hB5 : ∀ (b2 : Int32) (z : tq_S), B5 b2 z → tq_T K 0 x mm_J7_fill_53178 5 [.ref 20, .int a1, .int b2, .int a3] [] z Q) (h : wb_J7_fill_53178_r2_5 B5 Q a1 a2 a3 z) : tq_T K 0 x mm_J7_fill_53178 5 [.ref 20, .int a1, .int a2, .int a3] [] z Q := by
  unfold wb_J7_fill_53178_r2_5 at h
  refine tq_s_iload_n (kk := 2) (by decide +kernel) rfl ?_
  refine tq_s_iload_n (kk := 3) (by decide +kernel) rfl ?_
  refine tq_icmp_ge (off := 13) (tgt := 20) (by decide +kernel) (by decide +kernel) (fun hc => ?_) (fun hc => ?_)
  · replace h := h.1 hc
    exact tq_ret_v (st := []) (by decide +kernel) rfl h
  · replace h := h.2 hc
    refine tq_s_aload_n (kk := 0) (by decide +kernel) rfl ?_
    refine tq_s_iload_n (kk := 2) (by decide +kernel) rfl ?_
    refine tq_s_iload_n (kk := 1) (by decide +kernel) rfl ?_
    refine tq_g_iast (by decide +kernel) sh_20 h.1 (fun z101 ez101 => ?_)
    replace h := h.2 z101 ez101
    refine tq_g_iinc (i := 2) (fun v102 => [.ref 20, .int a1, .int v102, .int a3]) (by decide +kernel) rfl (1 : Int32) kc_1 (fun _ => rfl) (fun v102 ev102 => ?_)
    replace h := h v102 ev102
    refine tq_s_goto (off := -12) (tgt := 5) (by decide +kernel) (by decide +kernel) ?_
    exact hB5 _ _ h
theorem ac_J7_fill_53178_r2_5 {K : Nat × (Nat → Int32)} {x : Nat} {Q : tq_O → tq_S → Prop} {a1 : Int32} {a2 : Int32} {a3 : Int32} {z : tq_S} (h : wc_J7_fill_53178_r2_5 Q a1 a2 a3 z) : tq_T K 0 x mm_J7_fill_53178 5 [.ref 20, .int a1, .int a2, .int a3] [] z Q :=
  tq_lp_T (σ := Int32 × tq_S) (s := (a2, z)) (G := fun s => tq_T K 0 x mm_J7_fill_53178 5 [.ref 20, .int a1, .int s.1, .int a3] [] s.2 Q) (fun B hB s h => ab_J7_fill_53178_r2_5 (fun b2 z h => hB (b2, z) h) h) h
def wm_J7_fill_53178_r2 (a1 : Int32) (z : tq_S) (Q : tq_O → tq_S → Prop) : Prop := ∀ v1 : Int32, v1 = (Int32.ofNat 64) → wc_J7_fill_53178_r2_5 Q a1 (0 : Int32) v1 z
theorem am_J7_fill_53178_r2 {K : Nat × (Nat → Int32)} {x : Nat} {z : tq_S} {Q : tq_O → tq_S → Prop} {a1 : Int32} (h : wm_J7_fill_53178_r2 a1 z Q) : tq_M K 0 x mm_J7_fill_53178 [.ref 20, .int a1] z Q := by
  unfold wm_J7_fill_53178_r2 at h
  refine tq_enter (L := [.ref 20, .int a1, .null, .null]) mf_J7_fill_53178.1 rfl rfl (Nat.le_of_ble_eq_true rfl) ?_
  refine tq_k_ic (n := 0) (v := (0 : Int32)) (by decide +kernel) kc_0 ?_
  refine tq_s_istore_n (kk := 2) (L9 := [.ref 20, .int a1, .int (0 : Int32), .null]) (by decide +kernel) (by decide) rfl ?_
  refine tq_s_aload_n (kk := 0) (by decide +kernel) rfl ?_
  refine tq_s_alen (by decide +kernel) sh_20 (by decide) ?_
  refine tq_g_istore_n (kk := 3) (fun v1 => [.ref 20, .int a1, .int (0 : Int32), .int v1]) (by decide +kernel) (by decide) (fun _ => rfl) (fun v1 ev1 => ?_)
  replace h := h v1 ev1
  exact ac_J7_fill_53178_r2_5 h
def wm_X9_lowest (a0 : Int64) (z : tq_S) (Q : tq_O → tq_S → Prop) : Prop := wm_J13_bitCount_95d88 ((a0 ^^^ (-1 : Int64)) &&& (a0 - (1 : Int64))) z (tq_wi fun r2 z1 => Q (.inl (some (.int r2))) z1)
theorem am_X9_lowest {K : Nat × (Nat → Int32)} {x : Nat} {z : tq_S} {Q : tq_O → tq_S → Prop} {a0 : Int64} (h : wm_X9_lowest a0 z Q) : tq_M K 1 x mm_X9_lowest [.long a0] z Q := by
  unfold wm_X9_lowest at h
  refine tq_enter (L := [.long a0, .null]) mf_X9_lowest.1 rfl rfl (Nat.le_of_ble_eq_true rfl) ?_
  refine tq_s_lload_n (kk := 0) (by decide +kernel) rfl ?_
  refine tq_s_ldc2 (i := 29) (v := (-1 : Int64)) (by decide +kernel) (by decide +kernel) ?_
  refine tq_s_lxor (by decide +kernel) ?_
  refine tq_s_lload_n (kk := 0) (by decide +kernel) rfl ?_
  refine tq_k_lc (n := 1) (v := (1 : Int64)) (by decide +kernel) (by decide +kernel) ?_
  refine tq_s_lsub (by decide +kernel) ?_
  refine tq_s_land (by decide +kernel) ?_
  refine tq_callS (as := [.long ((a0 ^^^ (-1 : Int64)) &&& (a0 - (1 : Int64)))]) (st := []) (d1 := 0) (x1 := 0) (x2 := x) (by decide +kernel) ln_9_31 mf_J13_bitCount_95d88 rfl (by decide) np_J13_bitCount_95d88 rfl (Nat.le_of_ble_eq_true rfl) (by decide) (Nat.zero_add _).symm (tq_M_mono (am_J13_bitCount_95d88 h) ?_)
  refine tq_wi_e (fun r2 z1 h => ?_)
  exact tq_ret_i (st := []) (by decide +kernel) rfl h
def wc_X9_findFree_149 (B15 : Int64 → Int32 → Int32 → tq_S → Prop) (B69 : Int32 → Int64 → Int32 → tq_S → Prop) (Q : tq_O → tq_S → Prop) (a2 : Int64) (a4 : Int32) (a5 : Int32) (a6 : Int64) (a8 : Int32) (z : tq_S) : Prop := ∀ v101 : Int32, v101 = a8 + (1 : Int32) → B69 a4 a6 v101 z
theorem ac_X9_findFree_149 {K : Nat × (Nat → Int32)} {x : Nat} {Q : tq_O → tq_S → Prop} {B15 : Int64 → Int32 → Int32 → tq_S → Prop} {B69 : Int32 → Int64 → Int32 → tq_S → Prop} {a2 : Int64} {a4 : Int32} {a5 : Int32} {a6 : Int64} {a8 : Int32} {z : tq_S} (hB15 : ∀ (b2 : Int64) (b4 : Int32) (b5 : Int32) (z : tq_S), B15 b2 b4 b5 z → tq_T K 2 x mm_X9_findFree 15 [.ref 19, .null, .long b2, .null, .int b4, .int b5, .null, .null, .null, .null] [] z Q) (hB69 : ∀ (b4 : Int32) (b6 : Int64) (b8 : Int32) (z : tq_S), B69 b4 b6 b8 z → tq_T K 2 x mm_X9_findFree 69 [.ref 19, .null, .long a2, .null, .int b4, .int a5, .long b6, .null, .int b8, .null] [] z Q) (h : wc_X9_findFree_149 B15 B69 Q a2 a4 a5 a6 a8 z) : tq_T K 2 x mm_X9_findFree 149 [.ref 19, .null, .long a2, .null, .int a4, .int a5, .long a6, .null, .int a8, .null] [] z Q := by
  unfold wc_X9_findFree_149 at h
  refine tq_g_iinc (i := 8) (fun v101 => [.ref 19, .null, .long a2, .null, .int a4, .int a5, .long a6, .null, .int v101, .null]) (by decide +kernel) rfl (1 : Int32) kc_1 (fun _ => rfl) (fun v101 ev101 => ?_)
  replace h := h v101 ev101
  refine tq_s_goto (off := -83) (tgt := 69) (by decide +kernel) (by decide +kernel) ?_
  exact hB69 _ _ _ _ h
def wc_X9_findFree_155 (B15 : Int64 → Int32 → Int32 → tq_S → Prop) (Q : tq_O → tq_S → Prop) (a2 : Int64) (a4 : Int32) (a5 : Int32) (z : tq_S) : Prop := ∀ v101 : Int32, v101 = a5 + (1 : Int32) → B15 a2 a4 v101 z
theorem ac_X9_findFree_155 {K : Nat × (Nat → Int32)} {x : Nat} {Q : tq_O → tq_S → Prop} {B15 : Int64 → Int32 → Int32 → tq_S → Prop} {a2 : Int64} {a4 : Int32} {a5 : Int32} {z : tq_S} (hB15 : ∀ (b2 : Int64) (b4 : Int32) (b5 : Int32) (z : tq_S), B15 b2 b4 b5 z → tq_T K 2 x mm_X9_findFree 15 [.ref 19, .null, .long b2, .null, .int b4, .int b5, .null, .null, .null, .null] [] z Q) (h : wc_X9_findFree_155 B15 Q a2 a4 a5 z) : tq_T K 2 x mm_X9_findFree 155 [.ref 19, .null, .long a2, .null, .int a4, .int a5, .null, .null, .null, .null] [] z Q := by
  unfold wc_X9_findFree_155 at h
  refine tq_g_iinc (i := 5) (fun v101 => [.ref 19, .null, .long a2, .null, .int a4, .int v101, .null, .null, .null, .null]) (by decide +kernel) rfl (1 : Int32) kc_1 (fun _ => rfl) (fun v101 ev101 => ?_)
  replace h := h v101 ev101
  refine tq_s_goto (off := -143) (tgt := 15) (by decide +kernel) (by decide +kernel) ?_
  exact hB15 _ _ _ _ h
def wb_X9_findFree_69 (B15 : Int64 → Int32 → Int32 → tq_S → Prop) (B69 : Int32 → Int64 → Int32 → tq_S → Prop) (Q : tq_O → tq_S → Prop) (a2 : Int64) (a4 : Int32) (a5 : Int32) (a6 : Int64) (a8 : Int32) (z : tq_S) : Prop := (((4 : Int32) ≤ a8 → wc_X9_findFree_155 B15 Q a2 a4 a5 z) ∧ (¬ (4 : Int32) ≤ a8 → ((a6 = (0 : Int64) → wc_X9_findFree_155 B15 Q a2 a4 a5 z) ∧ (¬ a6 = (0 : Int64) → wm_X9_lowest a6 z (tq_wi fun r102 z101 => ∀ v103 : Int64, v103 = (a6 &&& (a6 - (1 : Int64))) → vp_in a5 64 ∧ vp_in r102 64 ∧ ∀ z104 : tq_S, z104 = tq_sai z101 21 (upd (tq_ai z101 21) (Int32.toNatClampNeg r102) (tq_ai z101 22 (Int32.toNatClampNeg a5))) → vp_in r102 64 ∧ ((0 ≤ (tq_ai z104 20 (Int32.toNatClampNeg r102)) → (((64 : Int32) ≤ a4 → wc_X9_findFree_149 B15 B69 Q a2 a4 a5 v103 a8 z104) ∧ (¬ (64 : Int32) ≤ a4 → vp_in r102 64 ∧ vp_in a4 64 ∧ ∀ z105 : tq_S, z105 = tq_sai z104 22 (upd (tq_ai z104 22) (Int32.toNatClampNeg a4) (tq_ai z104 20 (Int32.toNatClampNeg r102))) → ∀ v106 : Int32, v106 = a4 + (1 : Int32) → wc_X9_findFree_149 B15 B69 Q a2 v106 a5 v103 a8 z105))) ∧ (¬ 0 ≤ (tq_ai z104 20 (Int32.toNatClampNeg r102)) → Q (.inl (some (.int r102))) z104)))))))
def wc_X9_findFree_69 (B15 : Int64 → Int32 → Int32 → tq_S → Prop) (Q : tq_O → tq_S → Prop) (a2 : Int64) (a4 : Int32) (a5 : Int32) (a6 : Int64) (a8 : Int32) (z : tq_S) : Prop := tq_lp (σ := Int32 × Int64 × Int32 × tq_S) (fun B s => wb_X9_findFree_69 B15 (fun b4 b6 b8 z => B (b4, b6, b8, z)) Q a2 s.1 a5 s.2.1 s.2.2.1 s.2.2.2) (a4, a6, a8, z)
theorem ab_X9_findFree_69 {K : Nat × (Nat → Int32)} {x : Nat} {Q : tq_O → tq_S → Prop} {B15 : Int64 → Int32 → Int32 → tq_S → Prop} {B69 : Int32 → Int64 → Int32 → tq_S → Prop} {a2 : Int64} {a4 : Int32} {a5 : Int32} {a6 : Int64} {a8 : Int32} {z : tq_S} (hB15 : ∀ (b2 : Int64) (b4 : Int32) (b5 : Int32) (z : tq_S), B15 b2 b4 b5 z → tq_T K 2 x mm_X9_findFree 15 [.ref 19, .null, .long b2, .null, .int b4, .int b5, .null, .null, .null, .null] [] z Q) (hB69 : ∀ (b4 : Int32) (b6 : Int64) (b8 : Int32) (z : tq_S), B69 b4 b6 b8 z → tq_T K 2 x mm_X9_findFree 69 [.ref 19, .null, .long a2, .null, .int b4, .int a5, .long b6, .null, .int b8, .null] [] z Q) (h : wb_X9_findFree_69 B15 B69 Q a2 a4 a5 a6 a8 z) : tq_T K 2 x mm_X9_findFree 69 [.ref 19, .null, .long a2, .null, .int a4, .int a5, .long a6, .null, .int a8, .null] [] z Q := by
  unfold wb_X9_findFree_69 at h
  refine tq_s_iload (i := 8) (by decide +kernel) rfl ?_
  refine tq_k_ic (n := 4) (v := (4 : Int32)) (by decide +kernel) kc_4 ?_
  refine tq_icmp_ge (off := 83) (tgt := 155) (by decide +kernel) (by decide +kernel) (fun hc => ?_) (fun hc => ?_)
  · replace h := h.1 hc
    exact tq_to (tq_lk1 (tq_lk1 (tq_lk1 (tq_lk1 (tq_lk1 (tq_lk1 (tq_ld1 (tq_lk1 (tq_ld1 (tq_lk1 tq_l0)))))))))) (ac_X9_findFree_155 hB15 h)
  · replace h := h.2 hc
    refine tq_s_lload (i := 6) (by decide +kernel) rfl ?_
    refine tq_k_lc (n := 0) (v := (0 : Int64)) (by decide +kernel) (by decide +kernel) ?_
    refine tq_lcmp_eq (off := 76) (tgt := 155) (by decide +kernel) (by decide +kernel) (by decide +kernel) (fun hc => ?_) (fun hc => ?_)
    · replace h := h.1 hc
      exact tq_to (tq_lk1 (tq_lk1 (tq_lk1 (tq_lk1 (tq_lk1 (tq_lk1 (tq_ld1 (tq_lk1 (tq_ld1 (tq_lk1 tq_l0)))))))))) (ac_X9_findFree_155 hB15 h)
    · replace h := h.2 hc
      refine tq_s_lload (i := 6) (by decide +kernel) rfl ?_
      refine tq_callS (as := [.long a6]) (st := []) (d1 := 1) (x1 := 0) (x2 := x) (by decide +kernel) ln_9_61 mf_X9_lowest rfl (by decide) np_X9_lowest rfl (Nat.le_of_ble_eq_true rfl) (by decide) (Nat.zero_add _).symm (tq_M_mono (am_X9_lowest h) ?_)
      refine tq_wi_e (fun r102 z101 h => ?_)
      refine tq_s_istore (i := 9) (L9 := [.ref 19, .null, .long a2, .null, .int a4, .int a5, .long a6, .null, .int a8, .int r102]) (by decide +kernel) (by decide) rfl ?_
      refine tq_s_lload (i := 6) (by decide +kernel) rfl ?_
      refine tq_s_lload (i := 6) (by decide +kernel) rfl ?_
      refine tq_k_lc (n := 1) (v := (1 : Int64)) (by decide +kernel) (by decide +kernel) ?_
      refine tq_s_lsub (by decide +kernel) ?_
      refine tq_s_land (by decide +kernel) ?_
      refine tq_g_lstore (i := 6) (fun v103 => [.ref 19, .null, .long a2, .null, .int a4, .int a5, .long v103, .null, .int a8, .int r102]) (by decide +kernel) (by decide) (fun _ => rfl) (fun v103 ev103 => ?_)
      replace h := h v103 ev103
      refine tq_s_aload_n (kk := 0) (by decide +kernel) rfl ?_
      refine fg_9_19_19 rfl (by decide +kernel) ?_
      refine tq_s_iload (i := 9) (by decide +kernel) rfl ?_
      refine tq_s_aload_n (kk := 0) (by decide +kernel) rfl ?_
      refine fg_9_22_19 rfl (by decide +kernel) ?_
      refine tq_s_iload (i := 5) (by decide +kernel) rfl ?_
      refine tq_s_iald (by decide +kernel) sh_22 h.1 ?_
      replace h := h.2
      refine tq_g_iast (by decide +kernel) sh_21 h.1 (fun z104 ez104 => ?_)
      replace h := h.2 z104 ez104
      refine tq_s_aload_n (kk := 0) (by decide +kernel) rfl ?_
      refine fg_9_15_19 rfl (by decide +kernel) ?_
      refine tq_s_iload (i := 9) (by decide +kernel) rfl ?_
      refine tq_s_iald (by decide +kernel) sh_20 h.1 ?_
      replace h := h.2
      refine tq_if_ge (off := 6) (tgt := 125) (by decide +kernel) (by decide +kernel) (fun hc => ?_) (fun hc => ?_)
      · replace h := h.1 hc
        refine tq_s_iload (i := 4) (by decide +kernel) rfl ?_
        refine tq_k_bi (n := 64) (v := (64 : Int32)) (by decide +kernel) kb_64 ?_
        refine tq_icmp_ge (off := 20) (tgt := 149) (by decide +kernel) (by decide +kernel) (fun hc => ?_) (fun hc => ?_)
        · replace h := h.1 hc
          exact tq_to (tq_lk1 (tq_lk1 (tq_lk1 (tq_lk1 (tq_lk1 (tq_lk1 (tq_lk1 (tq_lk1 (tq_lk1 (tq_ld1 tq_l0)))))))))) (ac_X9_findFree_149 hB15 hB69 h)
        · replace h := h.2 hc
          refine tq_s_aload_n (kk := 0) (by decide +kernel) rfl ?_
          refine fg_9_22_19 rfl (by decide +kernel) ?_
          refine tq_s_iload (i := 4) (by decide +kernel) rfl ?_
          refine tq_s_aload_n (kk := 0) (by decide +kernel) rfl ?_
          refine fg_9_15_19 rfl (by decide +kernel) ?_
          refine tq_s_iload (i := 9) (by decide +kernel) rfl ?_
          refine tq_s_iald (by decide +kernel) sh_20 h.1 ?_
          replace h := h.2
          refine tq_g_iast (by decide +kernel) sh_22 h.1 (fun z105 ez105 => ?_)
          replace h := h.2 z105 ez105
          refine tq_g_iinc (i := 4) (fun v106 => [.ref 19, .null, .long a2, .null, .int v106, .int a5, .long v103, .null, .int a8, .int r102]) (by decide +kernel) rfl (1 : Int32) kc_1 (fun _ => rfl) (fun v106 ev106 => ?_)
          replace h := h v106 ev106
          exact tq_to (tq_lk1 (tq_lk1 (tq_lk1 (tq_lk1 (tq_lk1 (tq_lk1 (tq_lk1 (tq_lk1 (tq_lk1 (tq_ld1 tq_l0)))))))))) (ac_X9_findFree_149 hB15 hB69 h)
      · replace h := h.2 hc
        refine tq_s_iload (i := 9) (by decide +kernel) rfl ?_
        exact tq_ret_i (st := []) (by decide +kernel) rfl h
theorem ac_X9_findFree_69 {K : Nat × (Nat → Int32)} {x : Nat} {Q : tq_O → tq_S → Prop} {B15 : Int64 → Int32 → Int32 → tq_S → Prop} {a2 : Int64} {a4 : Int32} {a5 : Int32} {a6 : Int64} {a8 : Int32} {z : tq_S} (hB15 : ∀ (b2 : Int64) (b4 : Int32) (b5 : Int32) (z : tq_S), B15 b2 b4 b5 z → tq_T K 2 x mm_X9_findFree 15 [.ref 19, .null, .long b2, .null, .int b4, .int b5, .null, .null, .null, .null] [] z Q) (h : wc_X9_findFree_69 B15 Q a2 a4 a5 a6 a8 z) : tq_T K 2 x mm_X9_findFree 69 [.ref 19, .null, .long a2, .null, .int a4, .int a5, .long a6, .null, .int a8, .null] [] z Q :=
  tq_lp_T (σ := Int32 × Int64 × Int32 × tq_S) (s := (a4, a6, a8, z)) (G := fun s => tq_T K 2 x mm_X9_findFree 69 [.ref 19, .null, .long a2, .null, .int s.1, .int a5, .long s.2.1, .null, .int s.2.2.1, .null] [] s.2.2.2 Q) (fun B hB s h => ab_X9_findFree_69 hB15 (fun b4 b6 b8 z h => hB (b4, b6, b8, z) h) h) h
def wb_X9_findFree_15 (B15 : Int64 → Int32 → Int32 → tq_S → Prop) (Q : tq_O → tq_S → Prop) (a2 : Int64) (a4 : Int32) (a5 : Int32) (z : tq_S) : Prop := ((a4 ≤ a5 → Q (.inl (some (.int (-1 : Int32)))) z) ∧ (¬ a4 ≤ a5 → (((64 : Int32) ≤ a5 → Q (.inl (some (.int (-1 : Int32)))) z) ∧ (¬ (64 : Int32) ≤ a5 → vp_in a5 64 ∧ wm_X1_beside ((1 : Int64) <<< ((Int32.toInt64 (tq_ai z 22 (Int32.toNatClampNeg a5))) &&& 63)) z (tq_wl fun r102 z101 => ∀ v103 : Int64, v103 = ((r102 &&& (tq_fl z101 67)) &&& (a2 ^^^ (-1 : Int64))) → ∀ v104 : Int64, v104 = (a2 ||| v103) → wc_X9_findFree_69 B15 Q v104 a4 a5 v103 (0 : Int32) z101)))))
def wc_X9_findFree_15 (Q : tq_O → tq_S → Prop) (a2 : Int64) (a4 : Int32) (a5 : Int32) (z : tq_S) : Prop := tq_lp (σ := Int64 × Int32 × Int32 × tq_S) (fun B s => wb_X9_findFree_15 (fun b2 b4 b5 z => B (b2, b4, b5, z)) Q s.1 s.2.1 s.2.2.1 s.2.2.2) (a2, a4, a5, z)
theorem ab_X9_findFree_15 {K : Nat × (Nat → Int32)} {x : Nat} {Q : tq_O → tq_S → Prop} {B15 : Int64 → Int32 → Int32 → tq_S → Prop} {a2 : Int64} {a4 : Int32} {a5 : Int32} {z : tq_S} (hB15 : ∀ (b2 : Int64) (b4 : Int32) (b5 : Int32) (z : tq_S), B15 b2 b4 b5 z → tq_T K 2 x mm_X9_findFree 15 [.ref 19, .null, .long b2, .null, .int b4, .int b5, .null, .null, .null, .null] [] z Q) (h : wb_X9_findFree_15 B15 Q a2 a4 a5 z) : tq_T K 2 x mm_X9_findFree 15 [.ref 19, .null, .long a2, .null, .int a4, .int a5, .null, .null, .null, .null] [] z Q := by
  unfold wb_X9_findFree_15 at h
  refine tq_s_iload (i := 5) (by decide +kernel) rfl ?_
  refine tq_s_iload (i := 4) (by decide +kernel) rfl ?_
  refine tq_icmp_ge (off := 142) (tgt := 161) (by decide +kernel) (by decide +kernel) (fun hc => ?_) (fun hc => ?_)
  · replace h := h.1 hc
    refine tq_k_ic (n := -1) (v := (-1 : Int32)) (by decide +kernel) kc_m1 ?_
    exact tq_ret_i (st := []) (by decide +kernel) rfl h
  · replace h := h.2 hc
    refine tq_s_iload (i := 5) (by decide +kernel) rfl ?_
    refine tq_k_bi (n := 64) (v := (64 : Int32)) (by decide +kernel) kb_64 ?_
    refine tq_icmp_ge (off := 135) (tgt := 161) (by decide +kernel) (by decide +kernel) (fun hc => ?_) (fun hc => ?_)
    · replace h := h.1 hc
      refine tq_k_ic (n := -1) (v := (-1 : Int32)) (by decide +kernel) kc_m1 ?_
      exact tq_ret_i (st := []) (by decide +kernel) rfl h
    · replace h := h.2 hc
      refine tq_s_aload_n (kk := 0) (by decide +kernel) rfl ?_
      refine fg_9_7_19 rfl (by decide +kernel) ?_
      refine tq_k_lc (n := 1) (v := (1 : Int64)) (by decide +kernel) (by decide +kernel) ?_
      refine tq_s_aload_n (kk := 0) (by decide +kernel) rfl ?_
      refine fg_9_22_19 rfl (by decide +kernel) ?_
      refine tq_s_iload (i := 5) (by decide +kernel) rfl ?_
      refine tq_s_iald (by decide +kernel) sh_22 h.1 ?_
      replace h := h.2
      refine tq_s_lshl (by decide +kernel) ?_
      refine tq_callVN (as := [.long ((1 : Int64) <<< ((Int32.toInt64 (tq_ai z 22 (Int32.toNatClampNeg a5))) &&& 63))]) (st := []) (d1 := 0) (x1 := 0) (x2 := x) (by decide +kernel) ln_9_72 mf_X1_beside rfl sh_1 rfl (by decide) np_X1_beside rfl (Nat.le_of_ble_eq_true rfl) (by decide) (Nat.zero_add _).symm (tq_M_mono (am_X1_beside h) ?_)
      refine tq_wl_e (fun r102 z101 h => ?_)
      refine tq_s_aload_n (kk := 0) (by decide +kernel) rfl ?_
      refine fg_9_7_19 rfl (by decide +kernel) ?_
      refine fg_9_52_1 rfl (by decide +kernel) ?_
      refine tq_s_land (by decide +kernel) ?_
      refine tq_s_lload_n (kk := 2) (by decide +kernel) rfl ?_
      refine tq_s_ldc2 (i := 29) (v := (-1 : Int64)) (by decide +kernel) (by decide +kernel) ?_
      refine tq_s_lxor (by decide +kernel) ?_
      refine tq_s_land (by decide +kernel) ?_
      refine tq_g_lstore (i := 6) (fun v103 => [.ref 19, .null, .long a2, .null, .int a4, .int a5, .long v103, .null, .null, .null]) (by decide +kernel) (by decide) (fun _ => rfl) (fun v103 ev103 => ?_)
      replace h := h v103 ev103
      refine tq_s_lload_n (kk := 2) (by decide +kernel) rfl ?_
      refine tq_s_lload (i := 6) (by decide +kernel) rfl ?_
      refine tq_s_lor (by decide +kernel) ?_
      refine tq_g_lstore_n (kk := 2) (fun v104 => [.ref 19, .null, .long v104, .null, .int a4, .int a5, .long v103, .null, .null, .null]) (by decide +kernel) (by decide) (fun _ => rfl) (fun v104 ev104 => ?_)
      replace h := h v104 ev104
      refine tq_k_ic (n := 0) (v := (0 : Int32)) (by decide +kernel) kc_0 ?_
      refine tq_s_istore (i := 8) (L9 := [.ref 19, .null, .long v104, .null, .int a4, .int a5, .long v103, .null, .int (0 : Int32), .null]) (by decide +kernel) (by decide) rfl ?_
      exact ac_X9_findFree_69 hB15 h
theorem ac_X9_findFree_15 {K : Nat × (Nat → Int32)} {x : Nat} {Q : tq_O → tq_S → Prop} {a2 : Int64} {a4 : Int32} {a5 : Int32} {z : tq_S} (h : wc_X9_findFree_15 Q a2 a4 a5 z) : tq_T K 2 x mm_X9_findFree 15 [.ref 19, .null, .long a2, .null, .int a4, .int a5, .null, .null, .null, .null] [] z Q :=
  tq_lp_T (σ := Int64 × Int32 × Int32 × tq_S) (s := (a2, a4, a5, z)) (G := fun s => tq_T K 2 x mm_X9_findFree 15 [.ref 19, .null, .long s.1, .null, .int s.2.1, .int s.2.2.1, .null, .null, .null, .null] [] s.2.2.2 Q) (fun B hB s h => ab_X9_findFree_15 (fun b2 b4 b5 z h => hB (b2, b4, b5, z) h) h) h
def wm_X9_findFree (a1 : Int32) (z : tq_S) (Q : tq_O → tq_S → Prop) : Prop := ∀ z1 : tq_S, z1 = tq_sai z 22 (upd (tq_ai z 22) (Int32.toNatClampNeg (0 : Int32)) a1) → wc_X9_findFree_15 Q (0 : Int64) (1 : Int32) (0 : Int32) z1
theorem am_X9_findFree {K : Nat × (Nat → Int32)} {x : Nat} {z : tq_S} {Q : tq_O → tq_S → Prop} {a1 : Int32} (h : wm_X9_findFree a1 z Q) : tq_M K 2 x mm_X9_findFree [.ref 19, .int a1] z Q := by
  unfold wm_X9_findFree at h
  refine tq_enter (L := [.ref 19, .int a1, .null, .null, .null, .null, .null, .null, .null, .null]) mf_X9_findFree.1 rfl rfl (Nat.le_of_ble_eq_true rfl) ?_
  refine tq_k_lc (n := 0) (v := (0 : Int64)) (by decide +kernel) (by decide +kernel) ?_
  refine tq_s_lstore_n (kk := 2) (L9 := [.ref 19, .int a1, .long (0 : Int64), .null, .null, .null, .null, .null, .null, .null]) (by decide +kernel) (by decide) rfl ?_
  refine tq_k_ic (n := 1) (v := (1 : Int32)) (by decide +kernel) kc_1 ?_
  refine tq_s_istore (i := 4) (L9 := [.ref 19, .int a1, .long (0 : Int64), .null, .int (1 : Int32), .null, .null, .null, .null, .null]) (by decide +kernel) (by decide) rfl ?_
  refine tq_s_aload_n (kk := 0) (by decide +kernel) rfl ?_
  refine fg_9_22_19 rfl (by decide +kernel) ?_
  refine tq_k_ic (n := 0) (v := (0 : Int32)) (by decide +kernel) kc_0 ?_
  refine tq_s_iload_n (kk := 1) (by decide +kernel) rfl ?_
  refine tq_g_iast (by decide +kernel) sh_22 vi_0_64 (fun z1 ez1 => ?_)
  replace h := h z1 ez1
  refine tq_k_ic (n := 0) (v := (0 : Int32)) (by decide +kernel) kc_0 ?_
  refine tq_s_istore (i := 5) (L9 := [.ref 19, .int a1, .long (0 : Int64), .null, .int (1 : Int32), .int (0 : Int32), .null, .null, .null, .null]) (by decide +kernel) (by decide) rfl ?_
  exact tq_to (tq_lk1 (tq_ld1 (tq_lk1 (tq_lk1 (tq_lk1 (tq_lk1 (tq_lk1 (tq_lk1 (tq_lk1 (tq_lk1 tq_l0)))))))))) (ac_X9_findFree_15 h)
def wb_X9_turnPath_4 (B4 : Int32 → Int32 → tq_S → Prop) (Q : tq_O → tq_S → Prop) (a2 : Int32) (a3 : Int32) (z : tq_S) : Prop := (((64 : Int32) ≤ a3 → Q (.inl none) z) ∧ (¬ (64 : Int32) ≤ a3 → ((a2 < 0 → Q (.inl none) z) ∧ (¬ a2 < 0 → vp_in a2 64 ∧ ∀ v101 : Int32, v101 = (tq_ai z 21 (Int32.toNatClampNeg a2)) → vp_in v101 64 ∧ ∀ v102 : Int32, v102 = (tq_ai z 20 (Int32.toNatClampNeg v101)) → vp_in v101 64 ∧ ∀ z103 : tq_S, z103 = tq_sai z 20 (upd (tq_ai z 20) (Int32.toNatClampNeg v101) a2) → vp_in a2 64 ∧ ∀ z104 : tq_S, z104 = tq_sai z103 20 (upd (tq_ai z103 20) (Int32.toNatClampNeg a2) v101) → ∀ v105 : Int32, v105 = a3 + (1 : Int32) → B4 v102 v105 z104))))
def wc_X9_turnPath_4 (Q : tq_O → tq_S → Prop) (a2 : Int32) (a3 : Int32) (z : tq_S) : Prop := tq_lp (σ := Int32 × Int32 × tq_S) (fun B s => wb_X9_turnPath_4 (fun b2 b3 z => B (b2, b3, z)) Q s.1 s.2.1 s.2.2) (a2, a3, z)
theorem ab_X9_turnPath_4 {K : Nat × (Nat → Int32)} {x : Nat} {Q : tq_O → tq_S → Prop} {B4 : Int32 → Int32 → tq_S → Prop} {a2 : Int32} {a3 : Int32} {z : tq_S} (hB4 : ∀ (b2 : Int32) (b3 : Int32) (z : tq_S), B4 b2 b3 z → tq_T K 0 x mm_X9_turnPath 4 [.ref 19, .null, .int b2, .int b3, .null, .null] [] z Q) (h : wb_X9_turnPath_4 B4 Q a2 a3 z) : tq_T K 0 x mm_X9_turnPath 4 [.ref 19, .null, .int a2, .int a3, .null, .null] [] z Q := by
  unfold wb_X9_turnPath_4 at h
  refine tq_s_iload_n (kk := 3) (by decide +kernel) rfl ?_
  refine tq_k_bi (n := 64) (v := (64 : Int32)) (by decide +kernel) kb_64 ?_
  refine tq_icmp_ge (off := 49) (tgt := 56) (by decide +kernel) (by decide +kernel) (fun hc => ?_) (fun hc => ?_)
  · replace h := h.1 hc
    exact tq_ret_v (st := []) (by decide +kernel) rfl h
  · replace h := h.2 hc
    refine tq_s_iload_n (kk := 2) (by decide +kernel) rfl ?_
    refine tq_if_lt (off := 45) (tgt := 56) (by decide +kernel) (by decide +kernel) (fun hc => ?_) (fun hc => ?_)
    · replace h := h.1 hc
      exact tq_ret_v (st := []) (by decide +kernel) rfl h
    · replace h := h.2 hc
      refine tq_s_aload_n (kk := 0) (by decide +kernel) rfl ?_
      refine fg_9_19_19 rfl (by decide +kernel) ?_
      refine tq_s_iload_n (kk := 2) (by decide +kernel) rfl ?_
      refine tq_s_iald (by decide +kernel) sh_21 h.1 ?_
      replace h := h.2
      refine tq_g_istore (i := 4) (fun v101 => [.ref 19, .null, .int a2, .int a3, .int v101, .null]) (by decide +kernel) (by decide) (fun _ => rfl) (fun v101 ev101 => ?_)
      replace h := h v101 ev101
      refine tq_s_aload_n (kk := 0) (by decide +kernel) rfl ?_
      refine fg_9_15_19 rfl (by decide +kernel) ?_
      refine tq_s_iload (i := 4) (by decide +kernel) rfl ?_
      refine tq_s_iald (by decide +kernel) sh_20 h.1 ?_
      replace h := h.2
      refine tq_g_istore (i := 5) (fun v102 => [.ref 19, .null, .int a2, .int a3, .int v101, .int v102]) (by decide +kernel) (by decide) (fun _ => rfl) (fun v102 ev102 => ?_)
      replace h := h v102 ev102
      refine tq_s_aload_n (kk := 0) (by decide +kernel) rfl ?_
      refine fg_9_15_19 rfl (by decide +kernel) ?_
      refine tq_s_iload (i := 4) (by decide +kernel) rfl ?_
      refine tq_s_iload_n (kk := 2) (by decide +kernel) rfl ?_
      refine tq_g_iast (by decide +kernel) sh_20 h.1 (fun z103 ez103 => ?_)
      replace h := h.2 z103 ez103
      refine tq_s_aload_n (kk := 0) (by decide +kernel) rfl ?_
      refine fg_9_15_19 rfl (by decide +kernel) ?_
      refine tq_s_iload_n (kk := 2) (by decide +kernel) rfl ?_
      refine tq_s_iload (i := 4) (by decide +kernel) rfl ?_
      refine tq_g_iast (by decide +kernel) sh_20 h.1 (fun z104 ez104 => ?_)
      replace h := h.2 z104 ez104
      refine tq_s_iload (i := 5) (by decide +kernel) rfl ?_
      refine tq_s_istore_n (kk := 2) (L9 := [.ref 19, .null, .int v102, .int a3, .int v101, .int v102]) (by decide +kernel) (by decide) rfl ?_
      refine tq_g_iinc (i := 3) (fun v105 => [.ref 19, .null, .int v102, .int v105, .int v101, .int v102]) (by decide +kernel) rfl (1 : Int32) kc_1 (fun _ => rfl) (fun v105 ev105 => ?_)
      replace h := h v105 ev105
      refine tq_s_goto (off := -49) (tgt := 4) (by decide +kernel) (by decide +kernel) ?_
      exact tq_to (tq_lk1 (tq_lk1 (tq_lk1 (tq_lk1 (tq_ld1 (tq_ld1 tq_l0)))))) (hB4 _ _ _ h)
theorem ac_X9_turnPath_4 {K : Nat × (Nat → Int32)} {x : Nat} {Q : tq_O → tq_S → Prop} {a2 : Int32} {a3 : Int32} {z : tq_S} (h : wc_X9_turnPath_4 Q a2 a3 z) : tq_T K 0 x mm_X9_turnPath 4 [.ref 19, .null, .int a2, .int a3, .null, .null] [] z Q :=
  tq_lp_T (σ := Int32 × Int32 × tq_S) (s := (a2, a3, z)) (G := fun s => tq_T K 0 x mm_X9_turnPath 4 [.ref 19, .null, .int s.1, .int s.2.1, .null, .null] [] s.2.2 Q) (fun B hB s h => ab_X9_turnPath_4 (fun b2 b3 z h => hB (b2, b3, z) h) h) h
def wm_X9_turnPath (a1 : Int32) (z : tq_S) (Q : tq_O → tq_S → Prop) : Prop := wc_X9_turnPath_4 Q a1 (0 : Int32) z
theorem am_X9_turnPath {K : Nat × (Nat → Int32)} {x : Nat} {z : tq_S} {Q : tq_O → tq_S → Prop} {a1 : Int32} (h : wm_X9_turnPath a1 z Q) : tq_M K 0 x mm_X9_turnPath [.ref 19, .int a1] z Q := by
  unfold wm_X9_turnPath at h
  refine tq_enter (L := [.ref 19, .int a1, .null, .null, .null, .null]) mf_X9_turnPath.1 rfl rfl (Nat.le_of_ble_eq_true rfl) ?_
  refine tq_s_iload_n (kk := 1) (by decide +kernel) rfl ?_
  refine tq_s_istore_n (kk := 2) (L9 := [.ref 19, .int a1, .int a1, .null, .null, .null]) (by decide +kernel) (by decide) rfl ?_
  refine tq_k_ic (n := 0) (v := (0 : Int32)) (by decide +kernel) kc_0 ?_
  refine tq_s_istore_n (kk := 3) (L9 := [.ref 19, .int a1, .int a1, .int (0 : Int32), .null, .null]) (by decide +kernel) (by decide) rfl ?_
  exact tq_to (tq_lk1 (tq_ld1 (tq_lk1 (tq_lk1 (tq_lk1 (tq_lk1 tq_l0)))))) (ac_X9_turnPath_4 h)
def wc_X9_pair_98 (B33 : Int64 → Int32 → tq_S → Prop) (Q : tq_O → tq_S → Prop) (a1 : Int64) (a3 : Int32) (z : tq_S) : Prop := ∀ v101 : Int32, v101 = a3 + (1 : Int32) → B33 a1 v101 z
theorem ac_X9_pair_98 {K : Nat × (Nat → Int32)} {x : Nat} {Q : tq_O → tq_S → Prop} {B33 : Int64 → Int32 → tq_S → Prop} {a1 : Int64} {a3 : Int32} {z : tq_S} (hB33 : ∀ (b1 : Int64) (b3 : Int32) (z : tq_S), B33 b1 b3 z → tq_T K 3 x mm_X9_pair 33 [.ref 19, .long b1, .null, .int b3, .null, .null] [] z Q) (h : wc_X9_pair_98 B33 Q a1 a3 z) : tq_T K 3 x mm_X9_pair 98 [.ref 19, .long a1, .null, .int a3, .null, .null] [] z Q := by
  unfold wc_X9_pair_98 at h
  refine tq_g_iinc (i := 3) (fun v101 => [.ref 19, .long a1, .null, .int v101, .null, .null]) (by decide +kernel) rfl (1 : Int32) kc_1 (fun _ => rfl) (fun v101 ev101 => ?_)
  replace h := h v101 ev101
  refine tq_s_goto (off := -68) (tgt := 33) (by decide +kernel) (by decide +kernel) ?_
  exact hB33 _ _ _ h
def wb_X9_pair_33 (B33 : Int64 → Int32 → tq_S → Prop) (Q : tq_O → tq_S → Prop) (a1 : Int64) (a3 : Int32) (z : tq_S) : Prop := (((64 : Int32) ≤ a3 → Q (.inl none) z) ∧ (¬ (64 : Int32) ≤ a3 → ((a1 = (0 : Int64) → Q (.inl none) z) ∧ (¬ a1 = (0 : Int64) → wm_X9_lowest a1 z (tq_wi fun r102 z101 => ∀ v103 : Int64, v103 = (a1 &&& (a1 - (1 : Int64))) → wm_X9_findFree r102 z101 (tq_wi fun r105 z104 => ((r105 < 0 → wc_X9_pair_98 B33 Q v103 a3 z104) ∧ (¬ r105 < 0 → ∀ z106 : tq_S, z106 = tq_sfl z104 1221 ((tq_fl z104 1221) &&& ((((1 : Int64) <<< ((Int32.toInt64 r102) &&& 63)) ||| ((1 : Int64) <<< ((Int32.toInt64 r105) &&& 63))) ^^^ (-1 : Int64))) → wm_X9_turnPath r105 z106 (tq_wv fun z107 => wc_X9_pair_98 B33 Q v103 a3 z107)))))))))
def wc_X9_pair_33 (Q : tq_O → tq_S → Prop) (a1 : Int64) (a3 : Int32) (z : tq_S) : Prop := tq_lp (σ := Int64 × Int32 × tq_S) (fun B s => wb_X9_pair_33 (fun b1 b3 z => B (b1, b3, z)) Q s.1 s.2.1 s.2.2) (a1, a3, z)
theorem ab_X9_pair_33 {K : Nat × (Nat → Int32)} {x : Nat} {Q : tq_O → tq_S → Prop} {B33 : Int64 → Int32 → tq_S → Prop} {a1 : Int64} {a3 : Int32} {z : tq_S} (hB33 : ∀ (b1 : Int64) (b3 : Int32) (z : tq_S), B33 b1 b3 z → tq_T K 3 x mm_X9_pair 33 [.ref 19, .long b1, .null, .int b3, .null, .null] [] z Q) (h : wb_X9_pair_33 B33 Q a1 a3 z) : tq_T K 3 x mm_X9_pair 33 [.ref 19, .long a1, .null, .int a3, .null, .null] [] z Q := by
  unfold wb_X9_pair_33 at h
  refine tq_s_iload_n (kk := 3) (by decide +kernel) rfl ?_
  refine tq_k_bi (n := 64) (v := (64 : Int32)) (by decide +kernel) kb_64 ?_
  refine tq_icmp_ge (off := 68) (tgt := 104) (by decide +kernel) (by decide +kernel) (fun hc => ?_) (fun hc => ?_)
  · replace h := h.1 hc
    exact tq_ret_v (st := []) (by decide +kernel) rfl h
  · replace h := h.2 hc
    refine tq_s_lload_n (kk := 1) (by decide +kernel) rfl ?_
    refine tq_k_lc (n := 0) (v := (0 : Int64)) (by decide +kernel) (by decide +kernel) ?_
    refine tq_lcmp_eq (off := 62) (tgt := 104) (by decide +kernel) (by decide +kernel) (by decide +kernel) (fun hc => ?_) (fun hc => ?_)
    · replace h := h.1 hc
      exact tq_ret_v (st := []) (by decide +kernel) rfl h
    · replace h := h.2 hc
      refine tq_s_lload_n (kk := 1) (by decide +kernel) rfl ?_
      refine tq_callS (as := [.long a1]) (st := []) (d1 := 1) (x1 := 0) (x2 := x) (by decide +kernel) ln_9_61 mf_X9_lowest rfl (by decide) np_X9_lowest rfl (Nat.le_of_ble_eq_true rfl) (by decide) (Nat.zero_add _).symm (tq_M_mono (am_X9_lowest h) ?_)
      refine tq_wi_e (fun r102 z101 h => ?_)
      refine tq_s_istore (i := 4) (L9 := [.ref 19, .long a1, .null, .int a3, .int r102, .null]) (by decide +kernel) (by decide) rfl ?_
      refine tq_s_lload_n (kk := 1) (by decide +kernel) rfl ?_
      refine tq_s_lload_n (kk := 1) (by decide +kernel) rfl ?_
      refine tq_k_lc (n := 1) (v := (1 : Int64)) (by decide +kernel) (by decide +kernel) ?_
      refine tq_s_lsub (by decide +kernel) ?_
      refine tq_s_land (by decide +kernel) ?_
      refine tq_g_lstore_n (kk := 1) (fun v103 => [.ref 19, .long v103, .null, .int a3, .int r102, .null]) (by decide +kernel) (by decide) (fun _ => rfl) (fun v103 ev103 => ?_)
      replace h := h v103 ev103
      refine tq_s_aload_n (kk := 0) (by decide +kernel) rfl ?_
      refine tq_s_iload (i := 4) (by decide +kernel) rfl ?_
      refine tq_callV (as := [.int r102]) (st := []) (d1 := 2) (x1 := 0) (x2 := x) (by decide +kernel) ln_9_64 mf_X9_findFree rfl sh_19 rfl (by decide) np_X9_findFree rfl (Nat.le_of_ble_eq_true rfl) (by decide) (Nat.zero_add _).symm (tq_M_mono (am_X9_findFree h) ?_)
      refine tq_wi_e (fun r105 z104 h => ?_)
      refine tq_s_istore (i := 5) (L9 := [.ref 19, .long v103, .null, .int a3, .int r102, .int r105]) (by decide +kernel) (by decide) rfl ?_
      refine tq_s_iload (i := 5) (by decide +kernel) rfl ?_
      refine tq_if_lt (off := 31) (tgt := 98) (by decide +kernel) (by decide +kernel) (fun hc => ?_) (fun hc => ?_)
      · replace h := h.1 hc
        exact tq_to (tq_lk1 (tq_lk1 (tq_lk1 (tq_lk1 (tq_ld1 (tq_ld1 tq_l0)))))) (ac_X9_pair_98 hB33 h)
      · replace h := h.2 hc
        refine tq_s_aload_n (kk := 0) (by decide +kernel) rfl ?_
        refine tq_s_dup (by decide +kernel) rfl ?_
        refine fg_9_56_19 rfl (by decide +kernel) ?_
        refine tq_k_lc (n := 1) (v := (1 : Int64)) (by decide +kernel) (by decide +kernel) ?_
        refine tq_s_iload (i := 4) (by decide +kernel) rfl ?_
        refine tq_s_lshl (by decide +kernel) ?_
        refine tq_k_lc (n := 1) (v := (1 : Int64)) (by decide +kernel) (by decide +kernel) ?_
        refine tq_s_iload (i := 5) (by decide +kernel) rfl ?_
        refine tq_s_lshl (by decide +kernel) ?_
        refine tq_s_lor (by decide +kernel) ?_
        refine tq_s_ldc2 (i := 29) (v := (-1 : Int64)) (by decide +kernel) (by decide +kernel) ?_
        refine tq_s_lxor (by decide +kernel) ?_
        refine tq_s_land (by decide +kernel) ?_
        refine fp_9_56_19 rfl (by decide +kernel) (fun z106 ez106 => ?_)
        replace h := h z106 ez106
        refine tq_s_aload_n (kk := 0) (by decide +kernel) rfl ?_
        refine tq_s_iload (i := 5) (by decide +kernel) rfl ?_
        refine tq_callV (as := [.int r105]) (st := []) (d1 := 0) (x1 := 0) (x2 := x) (by decide +kernel) ln_9_68 mf_X9_turnPath rfl sh_19 rfl (by decide) np_X9_turnPath rfl (Nat.le_of_ble_eq_true rfl) (by decide) (Nat.zero_add _).symm (tq_M_mono (am_X9_turnPath h) ?_)
        refine tq_wv_e (fun z107 h => ?_)
        exact tq_to (tq_lk1 (tq_lk1 (tq_lk1 (tq_lk1 (tq_ld1 (tq_ld1 tq_l0)))))) (ac_X9_pair_98 hB33 h)
theorem ac_X9_pair_33 {K : Nat × (Nat → Int32)} {x : Nat} {Q : tq_O → tq_S → Prop} {a1 : Int64} {a3 : Int32} {z : tq_S} (h : wc_X9_pair_33 Q a1 a3 z) : tq_T K 3 x mm_X9_pair 33 [.ref 19, .long a1, .null, .int a3, .null, .null] [] z Q :=
  tq_lp_T (σ := Int64 × Int32 × tq_S) (s := (a1, a3, z)) (G := fun s => tq_T K 3 x mm_X9_pair 33 [.ref 19, .long s.1, .null, .int s.2.1, .null, .null] [] s.2.2 Q) (fun B hB s h => ab_X9_pair_33 (fun b1 b3 z h => hB (b1, b3, z) h) h) h
def wm_X9_pair  (z : tq_S) (Q : tq_O → tq_S → Prop) : Prop := wm_J7_fill_53178_r2 (-1 : Int32) z (tq_wv fun z1 => ∀ z2 : tq_S, z2 = tq_sfl z1 1221 (tq_fl z1 67) → ∀ v3 : Int64, v3 = ((tq_fl z2 67) &&& (-6172840429334713771 : Int64)) → wc_X9_pair_33 Q v3 (0 : Int32) z2)
theorem am_X9_pair {K : Nat × (Nat → Int32)} {x : Nat} {z : tq_S} {Q : tq_O → tq_S → Prop}  (h : wm_X9_pair z Q) : tq_M K 3 x mm_X9_pair [.ref 19] z Q := by
  unfold wm_X9_pair at h
  refine tq_enter (L := [.ref 19, .null, .null, .null, .null, .null]) mf_X9_pair.1 rfl rfl (Nat.le_of_ble_eq_true rfl) ?_
  refine tq_s_aload_n (kk := 0) (by decide +kernel) rfl ?_
  refine fg_9_15_19 rfl (by decide +kernel) ?_
  refine tq_k_ic (n := -1) (v := (-1 : Int32)) (by decide +kernel) kc_m1 ?_
  refine tq_callS (as := [.ref 20, .int (-1 : Int32)]) (st := []) (d1 := 0) (x1 := 0) (x2 := x) (by decide +kernel) ln_9_46 mf_J7_fill_53178 rfl (by decide) np_J7_fill_53178 rfl (Nat.le_of_ble_eq_true rfl) (by decide) (Nat.zero_add _).symm (tq_M_mono (am_J7_fill_53178_r2 h) ?_)
  refine tq_wv_e (fun z1 h => ?_)
  refine tq_s_aload_n (kk := 0) (by decide +kernel) rfl ?_
  refine tq_s_aload_n (kk := 0) (by decide +kernel) rfl ?_
  refine fg_9_7_19 rfl (by decide +kernel) ?_
  refine fg_9_52_1 rfl (by decide +kernel) ?_
  refine fp_9_56_19 rfl (by decide +kernel) (fun z2 ez2 => ?_)
  replace h := h z2 ez2
  refine tq_s_aload_n (kk := 0) (by decide +kernel) rfl ?_
  refine fg_9_7_19 rfl (by decide +kernel) ?_
  refine fg_9_52_1 rfl (by decide +kernel) ?_
  refine tq_s_ldc2 (i := 59) (v := (-6172840429334713771 : Int64)) (by decide +kernel) (by decide +kernel) ?_
  refine tq_s_land (by decide +kernel) ?_
  refine tq_g_lstore_n (kk := 1) (fun v3 => [.ref 19, .long v3, .null, .null, .null, .null]) (by decide +kernel) (by decide) (fun _ => rfl) (fun v3 ev3 => ?_)
  replace h := h v3 ev3
  refine tq_k_ic (n := 0) (v := (0 : Int32)) (by decide +kernel) kc_0 ?_
  refine tq_s_istore_n (kk := 3) (L9 := [.ref 19, .long v3, .null, .int (0 : Int32), .null, .null]) (by decide +kernel) (by decide) rfl ?_
  exact ac_X9_pair_33 h
