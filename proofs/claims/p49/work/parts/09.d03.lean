def wc_X9_spreadFree_95 (B15 : Int32 → tq_S → Prop) (B52 : Int64 → Int32 → tq_S → Prop) (Q : tq_O → tq_S → Prop) (a1 : Int32) (a2 : Int64) (a4 : Int32) (z : tq_S) : Prop := ∀ v101 : Int32, v101 = a4 + (1 : Int32) → B52 a2 v101 z
theorem ac_X9_spreadFree_95 {K : Nat × (Nat → Int32)} {x : Nat} {Q : tq_O → tq_S → Prop} {B15 : Int32 → tq_S → Prop} {B52 : Int64 → Int32 → tq_S → Prop} {a1 : Int32} {a2 : Int64} {a4 : Int32} {z : tq_S} (hB15 : ∀ (b1 : Int32) (z : tq_S), B15 b1 z → tq_T K 1 x mm_X9_spreadFree 15 [.ref 19, .int b1, .null, .null, .null] [] z Q) (hB52 : ∀ (b2 : Int64) (b4 : Int32) (z : tq_S), B52 b2 b4 z → tq_T K 1 x mm_X9_spreadFree 52 [.ref 19, .int a1, .long b2, .null, .int b4] [] z Q) (h : wc_X9_spreadFree_95 B15 B52 Q a1 a2 a4 z) : tq_T K 1 x mm_X9_spreadFree 95 [.ref 19, .int a1, .long a2, .null, .int a4] [] z Q := by
  unfold wc_X9_spreadFree_95 at h
  refine tq_g_iinc (i := 4) (fun v101 => [.ref 19, .int a1, .long a2, .null, .int v101]) (by decide +kernel) rfl (1 : Int32) kc_1 (fun _ => rfl) (fun v101 ev101 => ?_)
  replace h := h v101 ev101
  refine tq_s_goto (off := -46) (tgt := 52) (by decide +kernel) (by decide +kernel) ?_
  exact hB52 _ _ _ h
def wc_X9_spreadFree_101 (B15 : Int32 → tq_S → Prop) (Q : tq_O → tq_S → Prop) (a1 : Int32) (a2 : Int64) (z : tq_S) : Prop := ((¬ a2 = (tq_fl z 1222) → ∀ z101 : tq_S, z101 = tq_sfl z 1222 a2 → ∀ v102 : Int32, v102 = a1 + (1 : Int32) → B15 v102 z101) ∧ (a2 = (tq_fl z 1222) → Q (.inl none) z))
theorem ac_X9_spreadFree_101 {K : Nat × (Nat → Int32)} {x : Nat} {Q : tq_O → tq_S → Prop} {B15 : Int32 → tq_S → Prop} {a1 : Int32} {a2 : Int64} {z : tq_S} (hB15 : ∀ (b1 : Int32) (z : tq_S), B15 b1 z → tq_T K 1 x mm_X9_spreadFree 15 [.ref 19, .int b1, .null, .null, .null] [] z Q) (h : wc_X9_spreadFree_101 B15 Q a1 a2 z) : tq_T K 1 x mm_X9_spreadFree 101 [.ref 19, .int a1, .long a2, .null, .null] [] z Q := by
  unfold wc_X9_spreadFree_101 at h
  refine tq_s_lload_n (kk := 2) (by decide +kernel) rfl ?_
  refine tq_s_aload_n (kk := 0) (by decide +kernel) rfl ?_
  refine fg_9_76_19 rfl (by decide +kernel) ?_
  refine tq_lcmp_ne (off := 6) (tgt := 113) (by decide +kernel) (by decide +kernel) (by decide +kernel) (fun hc => ?_) (fun hc => ?_)
  · replace h := h.1 hc
    refine tq_s_aload_n (kk := 0) (by decide +kernel) rfl ?_
    refine tq_s_lload_n (kk := 2) (by decide +kernel) rfl ?_
    refine fp_9_76_19 rfl (by decide +kernel) (fun z101 ez101 => ?_)
    replace h := h z101 ez101
    refine tq_g_iinc (i := 1) (fun v102 => [.ref 19, .int v102, .long a2, .null, .null]) (by decide +kernel) rfl (1 : Int32) kc_1 (fun _ => rfl) (fun v102 ev102 => ?_)
    replace h := h v102 ev102
    refine tq_s_goto (off := -106) (tgt := 15) (by decide +kernel) (by decide +kernel) ?_
    exact tq_to (tq_lk1 (tq_lk1 (tq_ld1 (tq_lk1 (tq_lk1 tq_l0))))) (hB15 _ _ h)
  · replace h := h.2 hc
    refine tq_s_goto (off := 14) (tgt := 124) (by decide +kernel) (by decide +kernel) ?_
    exact tq_ret_v (st := []) (by decide +kernel) rfl h
def wb_X9_spreadFree_52 (B15 : Int32 → tq_S → Prop) (B52 : Int64 → Int32 → tq_S → Prop) (Q : tq_O → tq_S → Prop) (a1 : Int32) (a2 : Int64) (a4 : Int32) (z : tq_S) : Prop := (((64 : Int32) ≤ a4 → wc_X9_spreadFree_101 B15 Q a1 a2 z) ∧ (¬ (64 : Int32) ≤ a4 → ((((tq_fl z 1223) &&& ((1 : Int64) <<< ((Int32.toInt64 a4) &&& 63))) = (0 : Int64) → wc_X9_spreadFree_95 B15 B52 Q a1 a2 a4 z) ∧ (¬ ((tq_fl z 1223) &&& ((1 : Int64) <<< ((Int32.toInt64 a4) &&& 63))) = (0 : Int64) → vp_in a4 64 ∧ (((tq_ai z 20 (Int32.toNatClampNeg a4)) < 0 → wc_X9_spreadFree_95 B15 B52 Q a1 a2 a4 z) ∧ (¬ (tq_ai z 20 (Int32.toNatClampNeg a4)) < 0 → vp_in a4 64 ∧ ∀ v101 : Int64, v101 = (a2 ||| ((1 : Int64) <<< ((Int32.toInt64 (tq_ai z 20 (Int32.toNatClampNeg a4))) &&& 63))) → wc_X9_spreadFree_95 B15 B52 Q a1 v101 a4 z))))))
def wc_X9_spreadFree_52 (B15 : Int32 → tq_S → Prop) (Q : tq_O → tq_S → Prop) (a1 : Int32) (a2 : Int64) (a4 : Int32) (z : tq_S) : Prop := tq_lp (σ := Int64 × Int32 × tq_S) (fun B s => wb_X9_spreadFree_52 B15 (fun b2 b4 z => B (b2, b4, z)) Q a1 s.1 s.2.1 s.2.2) (a2, a4, z)
theorem ab_X9_spreadFree_52 {K : Nat × (Nat → Int32)} {x : Nat} {Q : tq_O → tq_S → Prop} {B15 : Int32 → tq_S → Prop} {B52 : Int64 → Int32 → tq_S → Prop} {a1 : Int32} {a2 : Int64} {a4 : Int32} {z : tq_S} (hB15 : ∀ (b1 : Int32) (z : tq_S), B15 b1 z → tq_T K 1 x mm_X9_spreadFree 15 [.ref 19, .int b1, .null, .null, .null] [] z Q) (hB52 : ∀ (b2 : Int64) (b4 : Int32) (z : tq_S), B52 b2 b4 z → tq_T K 1 x mm_X9_spreadFree 52 [.ref 19, .int a1, .long b2, .null, .int b4] [] z Q) (h : wb_X9_spreadFree_52 B15 B52 Q a1 a2 a4 z) : tq_T K 1 x mm_X9_spreadFree 52 [.ref 19, .int a1, .long a2, .null, .int a4] [] z Q := by
  unfold wb_X9_spreadFree_52 at h
  refine tq_s_iload (i := 4) (by decide +kernel) rfl ?_
  refine tq_k_bi (n := 64) (v := (64 : Int32)) (by decide +kernel) kb_64 ?_
  refine tq_icmp_ge (off := 45) (tgt := 101) (by decide +kernel) (by decide +kernel) (fun hc => ?_) (fun hc => ?_)
  · replace h := h.1 hc
    exact tq_to (tq_lk1 (tq_lk1 (tq_lk1 (tq_lk1 (tq_ld1 tq_l0))))) (ac_X9_spreadFree_101 hB15 h)
  · replace h := h.2 hc
    refine tq_s_aload_n (kk := 0) (by decide +kernel) rfl ?_
    refine fg_9_79_19 rfl (by decide +kernel) ?_
    refine tq_k_lc (n := 1) (v := (1 : Int64)) (by decide +kernel) (by decide +kernel) ?_
    refine tq_s_iload (i := 4) (by decide +kernel) rfl ?_
    refine tq_s_lshl (by decide +kernel) ?_
    refine tq_s_land (by decide +kernel) ?_
    refine tq_k_lc (n := 0) (v := (0 : Int64)) (by decide +kernel) (by decide +kernel) ?_
    refine tq_lcmp_eq (off := 25) (tgt := 95) (by decide +kernel) (by decide +kernel) (by decide +kernel) (fun hc => ?_) (fun hc => ?_)
    · replace h := h.1 hc
      exact ac_X9_spreadFree_95 hB15 hB52 h
    · replace h := h.2 hc
      refine tq_s_aload_n (kk := 0) (by decide +kernel) rfl ?_
      refine fg_9_15_19 rfl (by decide +kernel) ?_
      refine tq_s_iload (i := 4) (by decide +kernel) rfl ?_
      refine tq_s_iald (by decide +kernel) sh_20 h.1 ?_
      replace h := h.2
      refine tq_if_lt (off := 15) (tgt := 95) (by decide +kernel) (by decide +kernel) (fun hc => ?_) (fun hc => ?_)
      · replace h := h.1 hc
        exact ac_X9_spreadFree_95 hB15 hB52 h
      · replace h := h.2 hc
        refine tq_s_lload_n (kk := 2) (by decide +kernel) rfl ?_
        refine tq_k_lc (n := 1) (v := (1 : Int64)) (by decide +kernel) (by decide +kernel) ?_
        refine tq_s_aload_n (kk := 0) (by decide +kernel) rfl ?_
        refine fg_9_15_19 rfl (by decide +kernel) ?_
        refine tq_s_iload (i := 4) (by decide +kernel) rfl ?_
        refine tq_s_iald (by decide +kernel) sh_20 h.1 ?_
        replace h := h.2
        refine tq_s_lshl (by decide +kernel) ?_
        refine tq_s_lor (by decide +kernel) ?_
        refine tq_g_lstore_n (kk := 2) (fun v101 => [.ref 19, .int a1, .long v101, .null, .int a4]) (by decide +kernel) (by decide) (fun _ => rfl) (fun v101 ev101 => ?_)
        replace h := h v101 ev101
        exact ac_X9_spreadFree_95 hB15 hB52 h
theorem ac_X9_spreadFree_52 {K : Nat × (Nat → Int32)} {x : Nat} {Q : tq_O → tq_S → Prop} {B15 : Int32 → tq_S → Prop} {a1 : Int32} {a2 : Int64} {a4 : Int32} {z : tq_S} (hB15 : ∀ (b1 : Int32) (z : tq_S), B15 b1 z → tq_T K 1 x mm_X9_spreadFree 15 [.ref 19, .int b1, .null, .null, .null] [] z Q) (h : wc_X9_spreadFree_52 B15 Q a1 a2 a4 z) : tq_T K 1 x mm_X9_spreadFree 52 [.ref 19, .int a1, .long a2, .null, .int a4] [] z Q :=
  tq_lp_T (σ := Int64 × Int32 × tq_S) (s := (a2, a4, z)) (G := fun s => tq_T K 1 x mm_X9_spreadFree 52 [.ref 19, .int a1, .long s.1, .null, .int s.2.1] [] s.2.2 Q) (fun B hB s h => ab_X9_spreadFree_52 hB15 (fun b2 b4 z h => hB (b2, b4, z) h) h) h
def wb_X9_spreadFree_15 (B15 : Int32 → tq_S → Prop) (Q : tq_O → tq_S → Prop) (a1 : Int32) (z : tq_S) : Prop := (((64 : Int32) ≤ a1 → Q (.inl none) z) ∧ (¬ (64 : Int32) ≤ a1 → wm_X1_beside (tq_fl z 1222) z (tq_wl fun r102 z101 => ∀ z103 : tq_S, z103 = tq_sfl z101 1223 (r102 &&& (tq_fl z101 67)) → ∀ v104 : Int64, v104 = (tq_fl z103 1222) → wc_X9_spreadFree_52 B15 Q a1 v104 (0 : Int32) z103)))
def wc_X9_spreadFree_15 (Q : tq_O → tq_S → Prop) (a1 : Int32) (z : tq_S) : Prop := tq_lp (σ := Int32 × tq_S) (fun B s => wb_X9_spreadFree_15 (fun b1 z => B (b1, z)) Q s.1 s.2) (a1, z)
theorem ab_X9_spreadFree_15 {K : Nat × (Nat → Int32)} {x : Nat} {Q : tq_O → tq_S → Prop} {B15 : Int32 → tq_S → Prop} {a1 : Int32} {z : tq_S} (hB15 : ∀ (b1 : Int32) (z : tq_S), B15 b1 z → tq_T K 1 x mm_X9_spreadFree 15 [.ref 19, .int b1, .null, .null, .null] [] z Q) (h : wb_X9_spreadFree_15 B15 Q a1 z) : tq_T K 1 x mm_X9_spreadFree 15 [.ref 19, .int a1, .null, .null, .null] [] z Q := by
  unfold wb_X9_spreadFree_15 at h
  refine tq_s_iload_n (kk := 1) (by decide +kernel) rfl ?_
  refine tq_k_bi (n := 64) (v := (64 : Int32)) (by decide +kernel) kb_64 ?_
  refine tq_icmp_ge (off := 106) (tgt := 124) (by decide +kernel) (by decide +kernel) (fun hc => ?_) (fun hc => ?_)
  · replace h := h.1 hc
    exact tq_ret_v (st := []) (by decide +kernel) rfl h
  · replace h := h.2 hc
    refine tq_s_aload_n (kk := 0) (by decide +kernel) rfl ?_
    refine tq_s_aload_n (kk := 0) (by decide +kernel) rfl ?_
    refine fg_9_7_19 rfl (by decide +kernel) ?_
    refine tq_s_aload_n (kk := 0) (by decide +kernel) rfl ?_
    refine fg_9_76_19 rfl (by decide +kernel) ?_
    refine tq_callVN (as := [.long (tq_fl z 1222)]) (st := [.ref 19]) (d1 := 0) (x1 := 0) (x2 := x) (by decide +kernel) ln_9_72 mf_X1_beside rfl sh_1 rfl (by decide) np_X1_beside rfl (Nat.le_of_ble_eq_true rfl) (by decide) (Nat.zero_add _).symm (tq_M_mono (am_X1_beside h) ?_)
    refine tq_wl_e (fun r102 z101 h => ?_)
    refine tq_s_aload_n (kk := 0) (by decide +kernel) rfl ?_
    refine fg_9_7_19 rfl (by decide +kernel) ?_
    refine fg_9_52_1 rfl (by decide +kernel) ?_
    refine tq_s_land (by decide +kernel) ?_
    refine fp_9_79_19 rfl (by decide +kernel) (fun z103 ez103 => ?_)
    replace h := h z103 ez103
    refine tq_s_aload_n (kk := 0) (by decide +kernel) rfl ?_
    refine fg_9_76_19 rfl (by decide +kernel) ?_
    refine tq_g_lstore_n (kk := 2) (fun v104 => [.ref 19, .int a1, .long v104, .null, .null]) (by decide +kernel) (by decide) (fun _ => rfl) (fun v104 ev104 => ?_)
    replace h := h v104 ev104
    refine tq_k_ic (n := 0) (v := (0 : Int32)) (by decide +kernel) kc_0 ?_
    refine tq_s_istore (i := 4) (L9 := [.ref 19, .int a1, .long v104, .null, .int (0 : Int32)]) (by decide +kernel) (by decide) rfl ?_
    exact ac_X9_spreadFree_52 hB15 h
theorem ac_X9_spreadFree_15 {K : Nat × (Nat → Int32)} {x : Nat} {Q : tq_O → tq_S → Prop} {a1 : Int32} {z : tq_S} (h : wc_X9_spreadFree_15 Q a1 z) : tq_T K 1 x mm_X9_spreadFree 15 [.ref 19, .int a1, .null, .null, .null] [] z Q :=
  tq_lp_T (σ := Int32 × tq_S) (s := (a1, z)) (G := fun s => tq_T K 1 x mm_X9_spreadFree 15 [.ref 19, .int s.1, .null, .null, .null] [] s.2 Q) (fun B hB s h => ab_X9_spreadFree_15 (fun b1 z h => hB (b1, z) h) h) h
def wm_X9_spreadFree  (z : tq_S) (Q : tq_O → tq_S → Prop) : Prop := ∀ z1 : tq_S, z1 = tq_sfl z 1222 (tq_fl z 1221) → ∀ z2 : tq_S, z2 = tq_sfl z1 1223 (0 : Int64) → wc_X9_spreadFree_15 Q (0 : Int32) z2
theorem am_X9_spreadFree {K : Nat × (Nat → Int32)} {x : Nat} {z : tq_S} {Q : tq_O → tq_S → Prop}  (h : wm_X9_spreadFree z Q) : tq_M K 1 x mm_X9_spreadFree [.ref 19] z Q := by
  unfold wm_X9_spreadFree at h
  refine tq_enter (L := [.ref 19, .null, .null, .null, .null]) mf_X9_spreadFree.1 rfl rfl (Nat.le_of_ble_eq_true rfl) ?_
  refine tq_s_aload_n (kk := 0) (by decide +kernel) rfl ?_
  refine tq_s_aload_n (kk := 0) (by decide +kernel) rfl ?_
  refine fg_9_56_19 rfl (by decide +kernel) ?_
  refine fp_9_76_19 rfl (by decide +kernel) (fun z1 ez1 => ?_)
  replace h := h z1 ez1
  refine tq_s_aload_n (kk := 0) (by decide +kernel) rfl ?_
  refine tq_k_lc (n := 0) (v := (0 : Int64)) (by decide +kernel) (by decide +kernel) ?_
  refine fp_9_79_19 rfl (by decide +kernel) (fun z2 ez2 => ?_)
  replace h := h z2 ez2
  refine tq_k_ic (n := 0) (v := (0 : Int32)) (by decide +kernel) kc_0 ?_
  refine tq_s_istore_n (kk := 1) (L9 := [.ref 19, .int (0 : Int32), .null, .null, .null]) (by decide +kernel) (by decide) rfl ?_
  exact ac_X9_spreadFree_15 h
def wm_X9_refresh  (z : tq_S) (Q : tq_O → tq_S → Prop) : Prop := ((¬ (tq_fi z 1220) = (tq_fi z 68) → wm_X9_pair z (tq_wv fun z1 => wm_X9_spreadFree z1 (tq_wv fun z2 => ∀ z3 : tq_S, z3 = tq_sfi z2 1220 (tq_fi z2 68) → Q (.inl none) z3))) ∧ ((tq_fi z 1220) = (tq_fi z 68) → Q (.inl none) z))
theorem am_X9_refresh {K : Nat × (Nat → Int32)} {x : Nat} {z : tq_S} {Q : tq_O → tq_S → Prop}  (h : wm_X9_refresh z Q) : tq_M K 4 x mm_X9_refresh [.ref 19] z Q := by
  unfold wm_X9_refresh at h
  refine tq_enter (L := [.ref 19]) mf_X9_refresh.1 rfl rfl (Nat.le_of_ble_eq_true rfl) ?_
  refine tq_s_aload_n (kk := 0) (by decide +kernel) rfl ?_
  refine fg_9_25_19 rfl (by decide +kernel) ?_
  refine tq_s_aload_n (kk := 0) (by decide +kernel) rfl ?_
  refine fg_9_7_19 rfl (by decide +kernel) ?_
  refine fg_9_37_1 rfl (by decide +kernel) ?_
  refine tq_icmp_ne (off := 4) (tgt := 15) (by decide +kernel) (by decide +kernel) (fun hc => ?_) (fun hc => ?_)
  · replace h := h.1 hc
    refine tq_s_aload_n (kk := 0) (by decide +kernel) rfl ?_
    refine tq_callV (as := []) (st := []) (d1 := 3) (x1 := 0) (x2 := x) (by decide +kernel) ln_9_40 mf_X9_pair rfl sh_19 rfl (by decide) np_X9_pair rfl (Nat.le_of_ble_eq_true rfl) (by decide) (Nat.zero_add _).symm (tq_M_mono (am_X9_pair h) ?_)
    refine tq_wv_e (fun z1 h => ?_)
    refine tq_s_aload_n (kk := 0) (by decide +kernel) rfl ?_
    refine tq_callV (as := []) (st := []) (d1 := 1) (x1 := 0) (x2 := x) (by decide +kernel) ln_9_43 mf_X9_spreadFree rfl sh_19 rfl (by decide) np_X9_spreadFree rfl (Nat.le_of_ble_eq_true rfl) (by decide) (Nat.zero_add _).symm (tq_M_mono (am_X9_spreadFree h) ?_)
    refine tq_wv_e (fun z2 h => ?_)
    refine tq_s_aload_n (kk := 0) (by decide +kernel) rfl ?_
    refine tq_s_aload_n (kk := 0) (by decide +kernel) rfl ?_
    refine fg_9_7_19 rfl (by decide +kernel) ?_
    refine fg_9_37_1 rfl (by decide +kernel) ?_
    refine fp_9_25_19 rfl (by decide +kernel) (fun z3 ez3 => ?_)
    replace h := h z3 ez3
    exact tq_ret_v (st := []) (by decide +kernel) rfl h
  · replace h := h.2 hc
    exact tq_ret_v (st := []) (by decide +kernel) rfl h
def wm_X11_free  (z : tq_S) (Q : tq_O → tq_S → Prop) : Prop := wm_X9_refresh z (tq_wv fun z1 => wm_J13_bitCount_95d88 (tq_fl z1 1221) z1 (tq_wi fun r3 z2 => Q (.inl (some (.int r3))) z2))
theorem am_X11_free {K : Nat × (Nat → Int32)} {x : Nat} {z : tq_S} {Q : tq_O → tq_S → Prop}  (h : wm_X11_free z Q) : tq_M K 5 x mm_X11_free [.ref 0] z Q := by
  unfold wm_X11_free at h
  refine tq_enter (L := [.ref 0]) mf_X11_free.1 rfl rfl (Nat.le_of_ble_eq_true rfl) ?_
  refine tq_s_aload_n (kk := 0) (by decide +kernel) rfl ?_
  refine fg_11_49_0 rfl (by decide +kernel) ?_
  refine tq_callVN (as := []) (st := []) (d1 := 4) (x1 := 0) (x2 := x) (by decide +kernel) ln_11_320 mf_X9_refresh rfl sh_19 rfl (by decide) np_X9_refresh rfl (Nat.le_of_ble_eq_true rfl) (by decide) (Nat.zero_add _).symm (tq_M_mono (am_X9_refresh h) ?_)
  refine tq_wv_e (fun z1 h => ?_)
  refine tq_s_aload_n (kk := 0) (by decide +kernel) rfl ?_
  refine fg_11_49_0 rfl (by decide +kernel) ?_
  refine fg_11_323_19 rfl (by decide +kernel) ?_
  refine tq_callS (as := [.long (tq_fl z1 1221)]) (st := []) (d1 := 0) (x1 := 0) (x2 := x) (by decide +kernel) ln_11_180 mf_J13_bitCount_95d88 rfl (by decide) np_J13_bitCount_95d88 rfl (Nat.le_of_ble_eq_true rfl) (by decide) (Nat.zero_add _).symm (tq_M_mono (am_J13_bitCount_95d88 h) ?_)
  refine tq_wi_e (fun r3 z2 h => ?_)
  exact tq_ret_i (st := []) (by decide +kernel) rfl h
def wc_X11_roles_29 (Q : tq_O → tq_S → Prop) (a1 : Int32) (z : tq_S) : Prop := wm_X9_refresh z (tq_wv fun z101 => wm_J13_bitCount_95d88 (tq_fl z101 1222) z101 (tq_wi fun r103 z102 => wm_J13_bitCount_95d88 (tq_fl z102 1223) z102 (tq_wi fun r105 z104 => ((¬ a1 = (102 : Int32) → ((¬ a1 = (110 : Int32) → wm_X1_size z104 (tq_wi fun r107 z106 => Q (.inl (some (.int ((r107 - r103) - r105)))) z106)) ∧ (a1 = (110 : Int32) → Q (.inl (some (.int r105))) z104))) ∧ (a1 = (102 : Int32) → Q (.inl (some (.int r103))) z104)))))
theorem ac_X11_roles_29 {K : Nat × (Nat → Int32)} {Q : tq_O → tq_S → Prop} {a1 : Int32} {z : tq_S} (h : wc_X11_roles_29 Q a1 z) : tq_T K 5 1 mm_X11_roles 29 [.ref 0, .int a1, .null, .null] [] z Q := by
  unfold wc_X11_roles_29 at h
  refine tq_s_aload_n (kk := 0) (by decide +kernel) rfl ?_
  refine fg_11_49_0 rfl (by decide +kernel) ?_
  refine tq_callVN (as := []) (st := []) (d1 := 4) (x1 := 0) (x2 := 1) (by decide +kernel) ln_11_320 mf_X9_refresh rfl sh_19 rfl (by decide) np_X9_refresh rfl (Nat.le_of_ble_eq_true rfl) (by decide) (Nat.zero_add _).symm (tq_M_mono (am_X9_refresh h) ?_)
  refine tq_wv_e (fun z101 h => ?_)
  refine tq_s_aload_n (kk := 0) (by decide +kernel) rfl ?_
  refine fg_11_49_0 rfl (by decide +kernel) ?_
  refine fg_11_329_19 rfl (by decide +kernel) ?_
  refine tq_callS (as := [.long (tq_fl z101 1222)]) (st := []) (d1 := 0) (x1 := 0) (x2 := 1) (by decide +kernel) ln_11_180 mf_J13_bitCount_95d88 rfl (by decide) np_J13_bitCount_95d88 rfl (Nat.le_of_ble_eq_true rfl) (by decide) (Nat.zero_add _).symm (tq_M_mono (am_J13_bitCount_95d88 h) ?_)
  refine tq_wi_e (fun r103 z102 h => ?_)
  refine tq_s_istore_n (kk := 2) (L9 := [.ref 0, .int a1, .int r103, .null]) (by decide +kernel) (by decide) rfl ?_
  refine tq_s_aload_n (kk := 0) (by decide +kernel) rfl ?_
  refine fg_11_49_0 rfl (by decide +kernel) ?_
  refine fg_11_332_19 rfl (by decide +kernel) ?_
  refine tq_callS (as := [.long (tq_fl z102 1223)]) (st := []) (d1 := 0) (x1 := 0) (x2 := 1) (by decide +kernel) ln_11_180 mf_J13_bitCount_95d88 rfl (by decide) np_J13_bitCount_95d88 rfl (Nat.le_of_ble_eq_true rfl) (by decide) (Nat.zero_add _).symm (tq_M_mono (am_J13_bitCount_95d88 h) ?_)
  refine tq_wi_e (fun r105 z104 h => ?_)
  refine tq_s_istore_n (kk := 3) (L9 := [.ref 0, .int a1, .int r103, .int r105]) (by decide +kernel) (by decide) rfl ?_
  refine tq_s_iload_n (kk := 1) (by decide +kernel) rfl ?_
  refine tq_k_bi (n := 102) (v := (102 : Int32)) (by decide +kernel) kb_102 ?_
  refine tq_icmp_ne (off := 5) (tgt := 66) (by decide +kernel) (by decide +kernel) (fun hc => ?_) (fun hc => ?_)
  · replace h := h.1 hc
    refine tq_s_iload_n (kk := 1) (by decide +kernel) rfl ?_
    refine tq_k_bi (n := 110) (v := (110 : Int32)) (by decide +kernel) kb_110 ?_
    refine tq_icmp_ne (off := 7) (tgt := 76) (by decide +kernel) (by decide +kernel) (fun hc => ?_) (fun hc => ?_)
    · replace h := h.1 hc
      refine tq_s_aload_n (kk := 0) (by decide +kernel) rfl ?_
      refine fg_11_10_0 rfl (by decide +kernel) ?_
      refine tq_callVN (as := []) (st := []) (d1 := 1) (x1 := 0) (x2 := 1) (by decide +kernel) ln_11_123 mf_X1_size rfl sh_1 rfl (by decide) np_X1_size rfl (Nat.le_of_ble_eq_true rfl) (by decide) (Nat.zero_add _).symm (tq_M_mono (am_X1_size h) ?_)
      refine tq_wi_e (fun r107 z106 h => ?_)
      refine tq_s_iload_n (kk := 2) (by decide +kernel) rfl ?_
      refine tq_s_isub (by decide +kernel) ?_
      refine tq_s_iload_n (kk := 3) (by decide +kernel) rfl ?_
      refine tq_s_isub (by decide +kernel) ?_
      exact tq_ret_i (st := []) (by decide +kernel) rfl h
    · replace h := h.2 hc
      refine tq_s_iload_n (kk := 3) (by decide +kernel) rfl ?_
      refine tq_s_goto (off := 14) (tgt := 87) (by decide +kernel) (by decide +kernel) ?_
      exact tq_ret_i (st := []) (by decide +kernel) rfl h
  · replace h := h.2 hc
    refine tq_s_iload_n (kk := 2) (by decide +kernel) rfl ?_
    exact tq_ret_i (st := []) (by decide +kernel) rfl h
def wm_X11_roles (a1 : Int32) (z : tq_S) (Q : tq_O → tq_S → Prop) : Prop := ((a1 = (102 : Int32) → wc_X11_roles_29 Q a1 z) ∧ (¬ a1 = (102 : Int32) → ((a1 = (110 : Int32) → wc_X11_roles_29 Q a1 z) ∧ (¬ a1 = (110 : Int32) → ((a1 = (45 : Int32) → wc_X11_roles_29 Q a1 z) ∧ (¬ a1 = (45 : Int32) → Q (.inr 1) z))))))
theorem am_X11_roles {K : Nat × (Nat → Int32)} {z : tq_S} {Q : tq_O → tq_S → Prop} {a1 : Int32} (h : wm_X11_roles a1 z Q) : tq_M K 5 1 mm_X11_roles [.ref 0, .int a1] z Q := by
  unfold wm_X11_roles at h
  refine tq_enter (L := [.ref 0, .int a1, .null, .null]) mf_X11_roles.1 rfl rfl (Nat.le_of_ble_eq_true rfl) ?_
  refine tq_s_iload_n (kk := 1) (by decide +kernel) rfl ?_
  refine tq_k_bi (n := 102) (v := (102 : Int32)) (by decide +kernel) kb_102 ?_
  refine tq_icmp_eq (off := 26) (tgt := 29) (by decide +kernel) (by decide +kernel) (fun hc => ?_) (fun hc => ?_)
  · replace h := h.1 hc
    exact ac_X11_roles_29 h
  · replace h := h.2 hc
    refine tq_s_iload_n (kk := 1) (by decide +kernel) rfl ?_
    refine tq_k_bi (n := 110) (v := (110 : Int32)) (by decide +kernel) kb_110 ?_
    refine tq_icmp_eq (off := 20) (tgt := 29) (by decide +kernel) (by decide +kernel) (fun hc => ?_) (fun hc => ?_)
    · replace h := h.1 hc
      exact ac_X11_roles_29 h
    · replace h := h.2 hc
      refine tq_s_iload_n (kk := 1) (by decide +kernel) rfl ?_
      refine tq_k_bi (n := 45) (v := (45 : Int32)) (by decide +kernel) kb_45 ?_
      refine tq_icmp_eq (off := 14) (tgt := 29) (by decide +kernel) (by decide +kernel) (fun hc => ?_) (fun hc => ?_)
      · replace h := h.1 hc
        exact ac_X11_roles_29 h
      · replace h := h.2 hc
        exact tq_throwSW th_11_105_335 rfl (by decide +kernel) (by decide +kernel) (by decide +kernel) (by decide +kernel) (by decide +kernel) (Nat.le_of_ble_eq_true rfl) rfl (Nat.le_refl 1) h
def wm_X6_orderOf (a0 : Int32) (z : tq_S) (Q : tq_O → tq_S → Prop) : Prop := vp_in a0 tq_ends.length ∧ vp_in (a0 - (1 : Int32)) tq_ends.length ∧ Q (.inl (some (.int ((tq_ends.getD (Int32.toNatClampNeg a0) 0) - (tq_ends.getD (Int32.toNatClampNeg (a0 - (1 : Int32))) 0))))) z
theorem am_X6_orderOf {K : Nat × (Nat → Int32)} {x : Nat} {z : tq_S} {Q : tq_O → tq_S → Prop} {a0 : Int32} (h : wm_X6_orderOf a0 z Q) : tq_M K 0 x mm_X6_orderOf [.int a0] z Q := by
  unfold wm_X6_orderOf at h
  refine tq_enter (L := [.int a0]) mf_X6_orderOf.1 rfl rfl (Nat.le_of_ble_eq_true rfl) ?_
  refine tq_s_gets (i := 20) (C := "Tilecount$Growth") (n := "ENDS") (b := 900) (by decide +kernel) (by decide +kernel) ?_
  refine tq_s_iload_n (kk := 0) (by decide +kernel) rfl ?_
  refine tq_s_caload (b := 900) (f := fun j => tq_ends.getD j 0) (by decide +kernel) rfl h.1 ?_
  replace h := h.2
  refine tq_s_gets (i := 20) (C := "Tilecount$Growth") (n := "ENDS") (b := 900) (by decide +kernel) (by decide +kernel) ?_
  refine tq_s_iload_n (kk := 0) (by decide +kernel) rfl ?_
  refine tq_k_ic (n := 1) (v := (1 : Int32)) (by decide +kernel) kc_1 ?_
  refine tq_s_isub (by decide +kernel) ?_
  refine tq_s_caload (b := 900) (f := fun j => tq_ends.getD j 0) (by decide +kernel) rfl h.1 ?_
  replace h := h.2
  refine tq_s_isub (by decide +kernel) ?_
  exact tq_ret_i (st := []) (by decide +kernel) rfl h
def wm_X6_factor (a0 : Int32) (a1 : Int32) (z : tq_S) (Q : tq_O → tq_S → Prop) : Prop := vp_in (a0 - (1 : Int32)) tq_ends.length ∧ vp_in (((tq_ends.getD (Int32.toNatClampNeg (a0 - (1 : Int32))) 0) + a1) - (1 : Int32)) tq_facs.length ∧ Q (.inl (some (.int (tq_facs.getD (Int32.toNatClampNeg (((tq_ends.getD (Int32.toNatClampNeg (a0 - (1 : Int32))) 0) + a1) - (1 : Int32))) 0)))) z
theorem am_X6_factor {K : Nat × (Nat → Int32)} {x : Nat} {z : tq_S} {Q : tq_O → tq_S → Prop} {a0 : Int32} {a1 : Int32} (h : wm_X6_factor a0 a1 z Q) : tq_M K 0 x mm_X6_factor [.int a0, .int a1] z Q := by
  unfold wm_X6_factor at h
  refine tq_enter (L := [.int a0, .int a1]) mf_X6_factor.1 rfl rfl (Nat.le_of_ble_eq_true rfl) ?_
  refine tq_s_gets (i := 23) (C := "Tilecount$Growth") (n := "FACTORS") (b := 901) (by decide +kernel) (by decide +kernel) ?_
  refine tq_s_gets (i := 20) (C := "Tilecount$Growth") (n := "ENDS") (b := 900) (by decide +kernel) (by decide +kernel) ?_
  refine tq_s_iload_n (kk := 0) (by decide +kernel) rfl ?_
  refine tq_k_ic (n := 1) (v := (1 : Int32)) (by decide +kernel) kc_1 ?_
  refine tq_s_isub (by decide +kernel) ?_
  refine tq_s_caload (b := 900) (f := fun j => tq_ends.getD j 0) (by decide +kernel) rfl h.1 ?_
  replace h := h.2
  refine tq_s_iload_n (kk := 1) (by decide +kernel) rfl ?_
  refine tq_s_iadd (by decide +kernel) ?_
  refine tq_k_ic (n := 1) (v := (1 : Int32)) (by decide +kernel) kc_1 ?_
  refine tq_s_isub (by decide +kernel) ?_
  refine tq_s_caload (b := 901) (f := fun j => tq_facs.getD j 0) (by decide +kernel) rfl h.1 ?_
  replace h := h.2
  exact tq_ret_i (st := []) (by decide +kernel) rfl h
def wm_J9_floorDiv_f86c9 (a0 : Int64) (a2 : Int64) (z : tq_S) (Q : tq_O → tq_S → Prop) : Prop := (¬ a2 = 0) ∧ ∀ v1 : Int64, v1 = (a0 / a2) → (((0 : Int64) ≤ (a0 ^^^ a2) → Q (.inl (some (.long v1))) z) ∧ (¬ (0 : Int64) ≤ (a0 ^^^ a2) → (((v1 * a2) = a0 → Q (.inl (some (.long v1))) z) ∧ (¬ (v1 * a2) = a0 → Q (.inl (some (.long (v1 - (1 : Int64))))) z))))
theorem am_J9_floorDiv_f86c9 {K : Nat × (Nat → Int32)} {x : Nat} {z : tq_S} {Q : tq_O → tq_S → Prop} {a0 : Int64} {a2 : Int64} (h : wm_J9_floorDiv_f86c9 a0 a2 z Q) : tq_M K 0 x mm_J9_floorDiv_f86c9 [.long a0, .long a2] z Q := by
  unfold wm_J9_floorDiv_f86c9 at h
  refine tq_enter (L := [.long a0, .null, .long a2, .null, .null, .null]) mf_J9_floorDiv_f86c9.1 rfl rfl (Nat.le_of_ble_eq_true rfl) ?_
  refine tq_s_lload_n (kk := 0) (by decide +kernel) rfl ?_
  refine tq_s_lload_n (kk := 2) (by decide +kernel) rfl ?_
  refine tq_s_ldiv (by decide +kernel) h.1 ?_
  replace h := h.2
  refine tq_g_lstore (i := 4) (fun v1 => [.long a0, .null, .long a2, .null, .long v1, .null]) (by decide +kernel) (by decide) (fun _ => rfl) (fun v1 ev1 => ?_)
  replace h := h v1 ev1
  refine tq_s_lload_n (kk := 0) (by decide +kernel) rfl ?_
  refine tq_s_lload_n (kk := 2) (by decide +kernel) rfl ?_
  refine tq_s_lxor (by decide +kernel) ?_
  refine tq_k_lc (n := 0) (v := (0 : Int64)) (by decide +kernel) (by decide +kernel) ?_
  refine tq_lcmp_ge (off := 17) (tgt := 27) (by decide +kernel) (by decide +kernel) (by decide +kernel) (fun hc => ?_) (fun hc => ?_)
  · replace h := h.1 hc
    refine tq_s_lload (i := 4) (by decide +kernel) rfl ?_
    exact tq_ret_l (st := []) (by decide +kernel) rfl h
  · replace h := h.2 hc
    refine tq_s_lload (i := 4) (by decide +kernel) rfl ?_
    refine tq_s_lload_n (kk := 2) (by decide +kernel) rfl ?_
    refine tq_s_lmul (by decide +kernel) ?_
    refine tq_s_lload_n (kk := 0) (by decide +kernel) rfl ?_
    refine tq_lcmp_eq (off := 8) (tgt := 27) (by decide +kernel) (by decide +kernel) (by decide +kernel) (fun hc => ?_) (fun hc => ?_)
    · replace h := h.1 hc
      refine tq_s_lload (i := 4) (by decide +kernel) rfl ?_
      exact tq_ret_l (st := []) (by decide +kernel) rfl h
    · replace h := h.2 hc
      refine tq_s_lload (i := 4) (by decide +kernel) rfl ?_
      refine tq_k_lc (n := 1) (v := (1 : Int64)) (by decide +kernel) (by decide +kernel) ?_
      refine tq_s_lsub (by decide +kernel) ?_
      exact tq_ret_l (st := []) (by decide +kernel) rfl h
def wc_X6_addTerms_84 (B20 : Int64 → Int32 → tq_S → Prop) (Q : tq_O → tq_S → Prop) (a1 : Int32) (a2 : Int32) (a3 : Int32) (a4 : Int32) (a7 : Int32) (a8 : Int64) (z : tq_S) : Prop := wm_J9_floorMod_f86c9 a8 (1000000000 : Int64) z (tq_wl fun r102 z101 => vp_in (a4 + a7) 234 ∧ ∀ z103 : tq_S, z103 = tq_sai z101 39 (upd (tq_ai z101 39) (Int32.toNatClampNeg (a4 + a7)) (Int64.toInt32 r102)) → wm_J9_floorDiv_f86c9 a8 (1000000000 : Int64) z103 (tq_wl fun r105 z104 => ∀ v106 : Int32, v106 = a7 + (1 : Int32) → B20 r105 v106 z104))
theorem ac_X6_addTerms_84 {K : Nat × (Nat → Int32)} {x : Nat} {Q : tq_O → tq_S → Prop} {B20 : Int64 → Int32 → tq_S → Prop} {a1 : Int32} {a2 : Int32} {a3 : Int32} {a4 : Int32} {a7 : Int32} {a8 : Int64} {z : tq_S} (hB20 : ∀ (b5 : Int64) (b7 : Int32) (z : tq_S), B20 b5 b7 z → tq_T K 1 x mm_X6_addTerms 20 [.ref 38, .int a1, .int a2, .int a3, .int a4, .long b5, .null, .int b7, .null, .null, .null] [] z Q) (h : wc_X6_addTerms_84 B20 Q a1 a2 a3 a4 a7 a8 z) : tq_T K 1 x mm_X6_addTerms 84 [.ref 38, .int a1, .int a2, .int a3, .int a4, .null, .null, .int a7, .long a8, .null, .null] [] z Q := by
  unfold wc_X6_addTerms_84 at h
  refine tq_s_aload_n (kk := 0) (by decide +kernel) rfl ?_
  refine fg_6_9_38 rfl (by decide +kernel) ?_
  refine tq_s_iload (i := 4) (by decide +kernel) rfl ?_
  refine tq_s_iload (i := 7) (by decide +kernel) rfl ?_
  refine tq_s_iadd (by decide +kernel) ?_
  refine tq_s_lload (i := 8) (by decide +kernel) rfl ?_
  refine tq_s_ldc2 (i := 48) (v := (1000000000 : Int64)) (by decide +kernel) (by decide +kernel) ?_
  refine tq_callS (as := [.long a8, .long (1000000000 : Int64)]) (st := [.int (a4 + a7), .ref 39]) (d1 := 0) (x1 := 0) (x2 := x) (by decide +kernel) ln_6_54 mf_J9_floorMod_f86c9 rfl (by decide) np_J9_floorMod_f86c9 rfl (Nat.le_of_ble_eq_true rfl) (by decide) (Nat.zero_add _).symm (tq_M_mono (am_J9_floorMod_f86c9 h) ?_)
  refine tq_wl_e (fun r102 z101 h => ?_)
  refine tq_s_l2i (by decide +kernel) ?_
  refine tq_g_iast (by decide +kernel) sh_39 h.1 (fun z103 ez103 => ?_)
  replace h := h.2 z103 ez103
  refine tq_s_lload (i := 8) (by decide +kernel) rfl ?_
  refine tq_s_ldc2 (i := 48) (v := (1000000000 : Int64)) (by decide +kernel) (by decide +kernel) ?_
  refine tq_callS (as := [.long a8, .long (1000000000 : Int64)]) (st := []) (d1 := 0) (x1 := 0) (x2 := x) (by decide +kernel) ln_6_60 mf_J9_floorDiv_f86c9 rfl (by decide) np_J9_floorDiv_f86c9 rfl (Nat.le_of_ble_eq_true rfl) (by decide) (Nat.zero_add _).symm (tq_M_mono (am_J9_floorDiv_f86c9 h) ?_)
  refine tq_wl_e (fun r105 z104 h => ?_)
  refine tq_s_lstore (i := 5) (L9 := [.ref 38, .int a1, .int a2, .int a3, .int a4, .long r105, .null, .int a7, .long a8, .null, .null]) (by decide +kernel) (by decide) rfl ?_
  refine tq_g_iinc (i := 7) (fun v106 => [.ref 38, .int a1, .int a2, .int a3, .int a4, .long r105, .null, .int v106, .long a8, .null, .null]) (by decide +kernel) rfl (1 : Int32) kc_1 (fun _ => rfl) (fun v106 ev106 => ?_)
  replace h := h v106 ev106
  refine tq_s_goto (off := -96) (tgt := 20) (by decide +kernel) (by decide +kernel) ?_
  exact tq_to (tq_lk1 (tq_lk1 (tq_lk1 (tq_lk1 (tq_lk1 (tq_lk1 (tq_lk1 (tq_lk1 (tq_ld1 (tq_lk1 (tq_lk1 tq_l0))))))))))) (hB20 _ _ _ h)
def wb_X6_addTerms_34 (B20 : Int64 → Int32 → tq_S → Prop) (B34 : Int64 → Int32 → tq_S → Prop) (Q : tq_O → tq_S → Prop) (a1 : Int32) (a2 : Int32) (a3 : Int32) (a4 : Int32) (a7 : Int32) (a8 : Int64) (a10 : Int32) (z : tq_S) : Prop := ((a3 < a10 → wc_X6_addTerms_84 B20 Q a1 a2 a3 a4 a7 a8 z) ∧ (¬ a3 < a10 → ((a2 < a10 → wc_X6_addTerms_84 B20 Q a1 a2 a3 a4 a7 a8 z) ∧ (¬ a2 < a10 → wm_X6_factor a1 a10 z (tq_wi fun r102 z101 => vp_in ((((a2 - a10) - (a2 - a10) / (9 : Int32) * (9 : Int32)) * (26 : Int32)) + a7) 234 ∧ ∀ v103 : Int64, v103 = (a8 + ((Int32.toInt64 r102) * (Int32.toInt64 (tq_ai z101 39 (Int32.toNatClampNeg ((((a2 - a10) - (a2 - a10) / (9 : Int32) * (9 : Int32)) * (26 : Int32)) + a7)))))) → ∀ v104 : Int32, v104 = a10 + (1 : Int32) → B34 v103 v104 z101)))))
def wc_X6_addTerms_34 (B20 : Int64 → Int32 → tq_S → Prop) (Q : tq_O → tq_S → Prop) (a1 : Int32) (a2 : Int32) (a3 : Int32) (a4 : Int32) (a7 : Int32) (a8 : Int64) (a10 : Int32) (z : tq_S) : Prop := tq_lp (σ := Int64 × Int32 × tq_S) (fun B s => wb_X6_addTerms_34 B20 (fun b8 b10 z => B (b8, b10, z)) Q a1 a2 a3 a4 a7 s.1 s.2.1 s.2.2) (a8, a10, z)
theorem ab_X6_addTerms_34 {K : Nat × (Nat → Int32)} {x : Nat} {Q : tq_O → tq_S → Prop} {B20 : Int64 → Int32 → tq_S → Prop} {B34 : Int64 → Int32 → tq_S → Prop} {a1 : Int32} {a2 : Int32} {a3 : Int32} {a4 : Int32} {a7 : Int32} {a8 : Int64} {a10 : Int32} {z : tq_S} (hB20 : ∀ (b5 : Int64) (b7 : Int32) (z : tq_S), B20 b5 b7 z → tq_T K 1 x mm_X6_addTerms 20 [.ref 38, .int a1, .int a2, .int a3, .int a4, .long b5, .null, .int b7, .null, .null, .null] [] z Q) (hB34 : ∀ (b8 : Int64) (b10 : Int32) (z : tq_S), B34 b8 b10 z → tq_T K 1 x mm_X6_addTerms 34 [.ref 38, .int a1, .int a2, .int a3, .int a4, .null, .null, .int a7, .long b8, .null, .int b10] [] z Q) (h : wb_X6_addTerms_34 B20 B34 Q a1 a2 a3 a4 a7 a8 a10 z) : tq_T K 1 x mm_X6_addTerms 34 [.ref 38, .int a1, .int a2, .int a3, .int a4, .null, .null, .int a7, .long a8, .null, .int a10] [] z Q := by
  unfold wb_X6_addTerms_34 at h
  refine tq_s_iload (i := 10) (by decide +kernel) rfl ?_
  refine tq_s_iload_n (kk := 3) (by decide +kernel) rfl ?_
  refine tq_icmp_gt (off := 47) (tgt := 84) (by decide +kernel) (by decide +kernel) (fun hc => ?_) (fun hc => ?_)
  · replace h := h.1 hc
    exact tq_to (tq_lk1 (tq_lk1 (tq_lk1 (tq_lk1 (tq_lk1 (tq_lk1 (tq_lk1 (tq_lk1 (tq_lk1 (tq_lk1 (tq_ld1 tq_l0))))))))))) (ac_X6_addTerms_84 hB20 h)
  · replace h := h.2 hc
    refine tq_s_iload (i := 10) (by decide +kernel) rfl ?_
    refine tq_s_iload_n (kk := 2) (by decide +kernel) rfl ?_
    refine tq_icmp_gt (off := 41) (tgt := 84) (by decide +kernel) (by decide +kernel) (fun hc => ?_) (fun hc => ?_)
    · replace h := h.1 hc
      exact tq_to (tq_lk1 (tq_lk1 (tq_lk1 (tq_lk1 (tq_lk1 (tq_lk1 (tq_lk1 (tq_lk1 (tq_lk1 (tq_lk1 (tq_ld1 tq_l0))))))))))) (ac_X6_addTerms_84 hB20 h)
    · replace h := h.2 hc
      refine tq_s_lload (i := 8) (by decide +kernel) rfl ?_
      refine tq_s_iload_n (kk := 1) (by decide +kernel) rfl ?_
      refine tq_s_iload (i := 10) (by decide +kernel) rfl ?_
      refine tq_callS (as := [.int a1, .int a10]) (st := [.long a8]) (d1 := 0) (x1 := 0) (x2 := x) (by decide +kernel) ln_6_50 mf_X6_factor rfl (by decide) np_X6_factor rfl (Nat.le_of_ble_eq_true rfl) (by decide) (Nat.zero_add _).symm (tq_M_mono (am_X6_factor h) ?_)
      refine tq_wi_e (fun r102 z101 h => ?_)
      refine tq_s_i2l (by decide +kernel) ?_
      refine tq_s_aload_n (kk := 0) (by decide +kernel) rfl ?_
      refine fg_6_9_38 rfl (by decide +kernel) ?_
      refine tq_s_iload_n (kk := 2) (by decide +kernel) rfl ?_
      refine tq_s_iload (i := 10) (by decide +kernel) rfl ?_
      refine tq_s_isub (by decide +kernel) ?_
      refine tq_k_bi (n := 9) (v := (9 : Int32)) (by decide +kernel) kb_9 ?_
      refine tq_s_irem (by decide +kernel) (by decide +kernel) ?_
      refine tq_k_bi (n := 26) (v := (26 : Int32)) (by decide +kernel) kb_26 ?_
      refine tq_s_imul (by decide +kernel) ?_
      refine tq_s_iload (i := 7) (by decide +kernel) rfl ?_
      refine tq_s_iadd (by decide +kernel) ?_
      refine tq_s_iald (by decide +kernel) sh_39 h.1 ?_
      replace h := h.2
      refine tq_s_i2l (by decide +kernel) ?_
      refine tq_s_lmul (by decide +kernel) ?_
      refine tq_s_ladd (by decide +kernel) ?_
      refine tq_g_lstore (i := 8) (fun v103 => [.ref 38, .int a1, .int a2, .int a3, .int a4, .null, .null, .int a7, .long v103, .null, .int a10]) (by decide +kernel) (by decide) (fun _ => rfl) (fun v103 ev103 => ?_)
      replace h := h v103 ev103
      refine tq_g_iinc (i := 10) (fun v104 => [.ref 38, .int a1, .int a2, .int a3, .int a4, .null, .null, .int a7, .long v103, .null, .int v104]) (by decide +kernel) rfl (1 : Int32) kc_1 (fun _ => rfl) (fun v104 ev104 => ?_)
      replace h := h v104 ev104
      refine tq_s_goto (off := -47) (tgt := 34) (by decide +kernel) (by decide +kernel) ?_
      exact hB34 _ _ _ h
theorem ac_X6_addTerms_34 {K : Nat × (Nat → Int32)} {x : Nat} {Q : tq_O → tq_S → Prop} {B20 : Int64 → Int32 → tq_S → Prop} {a1 : Int32} {a2 : Int32} {a3 : Int32} {a4 : Int32} {a7 : Int32} {a8 : Int64} {a10 : Int32} {z : tq_S} (hB20 : ∀ (b5 : Int64) (b7 : Int32) (z : tq_S), B20 b5 b7 z → tq_T K 1 x mm_X6_addTerms 20 [.ref 38, .int a1, .int a2, .int a3, .int a4, .long b5, .null, .int b7, .null, .null, .null] [] z Q) (h : wc_X6_addTerms_34 B20 Q a1 a2 a3 a4 a7 a8 a10 z) : tq_T K 1 x mm_X6_addTerms 34 [.ref 38, .int a1, .int a2, .int a3, .int a4, .null, .null, .int a7, .long a8, .null, .int a10] [] z Q :=
  tq_lp_T (σ := Int64 × Int32 × tq_S) (s := (a8, a10, z)) (G := fun s => tq_T K 1 x mm_X6_addTerms 34 [.ref 38, .int a1, .int a2, .int a3, .int a4, .null, .null, .int a7, .long s.1, .null, .int s.2.1] [] s.2.2 Q) (fun B hB s h => ab_X6_addTerms_34 hB20 (fun b8 b10 z h => hB (b8, b10, z) h) h) h
def wb_X6_addTerms_20 (B20 : Int64 → Int32 → tq_S → Prop) (Q : tq_O → tq_S → Prop) (a1 : Int32) (a2 : Int32) (a3 : Int32) (a4 : Int32) (a5 : Int64) (a7 : Int32) (z : tq_S) : Prop := (((26 : Int32) ≤ a7 → Q (.inl none) z) ∧ (¬ (26 : Int32) ≤ a7 → wc_X6_addTerms_34 B20 Q a1 a2 a3 a4 a7 a5 (1 : Int32) z))
def wc_X6_addTerms_20 (Q : tq_O → tq_S → Prop) (a1 : Int32) (a2 : Int32) (a3 : Int32) (a4 : Int32) (a5 : Int64) (a7 : Int32) (z : tq_S) : Prop := tq_lp (σ := Int64 × Int32 × tq_S) (fun B s => wb_X6_addTerms_20 (fun b5 b7 z => B (b5, b7, z)) Q a1 a2 a3 a4 s.1 s.2.1 s.2.2) (a5, a7, z)
theorem ab_X6_addTerms_20 {K : Nat × (Nat → Int32)} {x : Nat} {Q : tq_O → tq_S → Prop} {B20 : Int64 → Int32 → tq_S → Prop} {a1 : Int32} {a2 : Int32} {a3 : Int32} {a4 : Int32} {a5 : Int64} {a7 : Int32} {z : tq_S} (hB20 : ∀ (b5 : Int64) (b7 : Int32) (z : tq_S), B20 b5 b7 z → tq_T K 1 x mm_X6_addTerms 20 [.ref 38, .int a1, .int a2, .int a3, .int a4, .long b5, .null, .int b7, .null, .null, .null] [] z Q) (h : wb_X6_addTerms_20 B20 Q a1 a2 a3 a4 a5 a7 z) : tq_T K 1 x mm_X6_addTerms 20 [.ref 38, .int a1, .int a2, .int a3, .int a4, .long a5, .null, .int a7, .null, .null, .null] [] z Q := by
  unfold wb_X6_addTerms_20 at h
  refine tq_s_iload (i := 7) (by decide +kernel) rfl ?_
  refine tq_k_bi (n := 26) (v := (26 : Int32)) (by decide +kernel) kb_26 ?_
  refine tq_icmp_ge (off := 95) (tgt := 119) (by decide +kernel) (by decide +kernel) (fun hc => ?_) (fun hc => ?_)
  · replace h := h.1 hc
    exact tq_ret_v (st := []) (by decide +kernel) rfl h
  · replace h := h.2 hc
    refine tq_s_lload (i := 5) (by decide +kernel) rfl ?_
    refine tq_s_lstore (i := 8) (L9 := [.ref 38, .int a1, .int a2, .int a3, .int a4, .long a5, .null, .int a7, .long a5, .null, .null]) (by decide +kernel) (by decide) rfl ?_
    refine tq_k_ic (n := 1) (v := (1 : Int32)) (by decide +kernel) kc_1 ?_
    refine tq_s_istore (i := 10) (L9 := [.ref 38, .int a1, .int a2, .int a3, .int a4, .long a5, .null, .int a7, .long a5, .null, .int (1 : Int32)]) (by decide +kernel) (by decide) rfl ?_
    exact tq_to (tq_lk1 (tq_lk1 (tq_lk1 (tq_lk1 (tq_lk1 (tq_ld1 (tq_lk1 (tq_lk1 (tq_lk1 (tq_lk1 (tq_lk1 tq_l0))))))))))) (ac_X6_addTerms_34 hB20 h)
theorem ac_X6_addTerms_20 {K : Nat × (Nat → Int32)} {x : Nat} {Q : tq_O → tq_S → Prop} {a1 : Int32} {a2 : Int32} {a3 : Int32} {a4 : Int32} {a5 : Int64} {a7 : Int32} {z : tq_S} (h : wc_X6_addTerms_20 Q a1 a2 a3 a4 a5 a7 z) : tq_T K 1 x mm_X6_addTerms 20 [.ref 38, .int a1, .int a2, .int a3, .int a4, .long a5, .null, .int a7, .null, .null, .null] [] z Q :=
  tq_lp_T (σ := Int64 × Int32 × tq_S) (s := (a5, a7, z)) (G := fun s => tq_T K 1 x mm_X6_addTerms 20 [.ref 38, .int a1, .int a2, .int a3, .int a4, .long s.1, .null, .int s.2.1, .null, .null, .null] [] s.2.2 Q) (fun B hB s h => ab_X6_addTerms_20 (fun b5 b7 z h => hB (b5, b7, z) h) h) h
def wm_X6_addTerms (a1 : Int32) (a2 : Int32) (z : tq_S) (Q : tq_O → tq_S → Prop) : Prop := wm_X6_orderOf a1 z (tq_wi fun r2 z1 => ∀ v3 : Int32, v3 = ((a2 - a2 / (9 : Int32) * (9 : Int32)) * (26 : Int32)) → wc_X6_addTerms_20 Q a1 a2 r2 v3 (0 : Int64) (0 : Int32) z1)
theorem am_X6_addTerms {K : Nat × (Nat → Int32)} {x : Nat} {z : tq_S} {Q : tq_O → tq_S → Prop} {a1 : Int32} {a2 : Int32} (h : wm_X6_addTerms a1 a2 z Q) : tq_M K 1 x mm_X6_addTerms [.ref 38, .int a1, .int a2] z Q := by
  unfold wm_X6_addTerms at h
  refine tq_enter (L := [.ref 38, .int a1, .int a2, .null, .null, .null, .null, .null, .null, .null, .null]) mf_X6_addTerms.1 rfl rfl (Nat.le_of_ble_eq_true rfl) ?_
  refine tq_s_iload_n (kk := 1) (by decide +kernel) rfl ?_
  refine tq_callS (as := [.int a1]) (st := []) (d1 := 0) (x1 := 0) (x2 := x) (by decide +kernel) ln_6_26 mf_X6_orderOf rfl (by decide) np_X6_orderOf rfl (Nat.le_of_ble_eq_true rfl) (by decide) (Nat.zero_add _).symm (tq_M_mono (am_X6_orderOf h) ?_)
  refine tq_wi_e (fun r2 z1 h => ?_)
  refine tq_s_istore_n (kk := 3) (L9 := [.ref 38, .int a1, .int a2, .int r2, .null, .null, .null, .null, .null, .null, .null]) (by decide +kernel) (by decide) rfl ?_
  refine tq_s_iload_n (kk := 2) (by decide +kernel) rfl ?_
  refine tq_k_bi (n := 9) (v := (9 : Int32)) (by decide +kernel) kb_9 ?_
  refine tq_s_irem (by decide +kernel) (by decide +kernel) ?_
  refine tq_k_bi (n := 26) (v := (26 : Int32)) (by decide +kernel) kb_26 ?_
  refine tq_s_imul (by decide +kernel) ?_
  refine tq_g_istore (i := 4) (fun v3 => [.ref 38, .int a1, .int a2, .int r2, .int v3, .null, .null, .null, .null, .null, .null]) (by decide +kernel) (by decide) (fun _ => rfl) (fun v3 ev3 => ?_)
  replace h := h v3 ev3
  refine tq_k_lc (n := 0) (v := (0 : Int64)) (by decide +kernel) (by decide +kernel) ?_
  refine tq_s_lstore (i := 5) (L9 := [.ref 38, .int a1, .int a2, .int r2, .int v3, .long (0 : Int64), .null, .null, .null, .null, .null]) (by decide +kernel) (by decide) rfl ?_
  refine tq_k_ic (n := 0) (v := (0 : Int32)) (by decide +kernel) kc_0 ?_
  refine tq_s_istore (i := 7) (L9 := [.ref 38, .int a1, .int a2, .int r2, .int v3, .long (0 : Int64), .null, .int (0 : Int32), .null, .null, .null]) (by decide +kernel) (by decide) rfl ?_
  exact ac_X6_addTerms_20 h
def wb_J7_fill_d0a16_r5_6 (B6 : Int32 → tq_S → Prop) (Q : tq_O → tq_S → Prop) (a1 : Int64) (a3 : Int32) (a4 : Int32) (z : tq_S) : Prop := ((a4 ≤ a3 → Q (.inl none) z) ∧ (¬ a4 ≤ a3 → vp_in a3 64 ∧ ∀ z101 : tq_S, z101 = tq_sal z 40 (vp_updL (tq_al z 40) (Int32.toNatClampNeg a3) a1) → ∀ v102 : Int32, v102 = a3 + (1 : Int32) → B6 v102 z101))
def wc_J7_fill_d0a16_r5_6 (Q : tq_O → tq_S → Prop) (a1 : Int64) (a3 : Int32) (a4 : Int32) (z : tq_S) : Prop := tq_lp (σ := Int32 × tq_S) (fun B s => wb_J7_fill_d0a16_r5_6 (fun b3 z => B (b3, z)) Q a1 s.1 a4 s.2) (a3, z)
theorem ab_J7_fill_d0a16_r5_6 {K : Nat × (Nat → Int32)} {x : Nat} {Q : tq_O → tq_S → Prop} {B6 : Int32 → tq_S → Prop} {a1 : Int64} {a3 : Int32} {a4 : Int32} {z : tq_S} (hB6 : ∀ (b3 : Int32) (z : tq_S), B6 b3 z → tq_T K 0 x mm_J7_fill_d0a16 6 [.ref 40, .long a1, .null, .int b3, .int a4] [] z Q) (h : wb_J7_fill_d0a16_r5_6 B6 Q a1 a3 a4 z) : tq_T K 0 x mm_J7_fill_d0a16 6 [.ref 40, .long a1, .null, .int a3, .int a4] [] z Q := by
  unfold wb_J7_fill_d0a16_r5_6 at h
  refine tq_s_iload_n (kk := 3) (by decide +kernel) rfl ?_
  refine tq_s_iload (i := 4) (by decide +kernel) rfl ?_
  refine tq_icmp_ge (off := 13) (tgt := 22) (by decide +kernel) (by decide +kernel) (fun hc => ?_) (fun hc => ?_)
  · replace h := h.1 hc
    exact tq_ret_v (st := []) (by decide +kernel) rfl h
  · replace h := h.2 hc
    refine tq_s_aload_n (kk := 0) (by decide +kernel) rfl ?_
    refine tq_s_iload_n (kk := 3) (by decide +kernel) rfl ?_
    refine tq_s_lload_n (kk := 1) (by decide +kernel) rfl ?_
    refine tq_g_last (by decide +kernel) sh_40 h.1 (fun z101 ez101 => ?_)
    replace h := h.2 z101 ez101
    refine tq_g_iinc (i := 3) (fun v102 => [.ref 40, .long a1, .null, .int v102, .int a4]) (by decide +kernel) rfl (1 : Int32) kc_1 (fun _ => rfl) (fun v102 ev102 => ?_)
    replace h := h v102 ev102
    refine tq_s_goto (off := -13) (tgt := 6) (by decide +kernel) (by decide +kernel) ?_
    exact hB6 _ _ h
theorem ac_J7_fill_d0a16_r5_6 {K : Nat × (Nat → Int32)} {x : Nat} {Q : tq_O → tq_S → Prop} {a1 : Int64} {a3 : Int32} {a4 : Int32} {z : tq_S} (h : wc_J7_fill_d0a16_r5_6 Q a1 a3 a4 z) : tq_T K 0 x mm_J7_fill_d0a16 6 [.ref 40, .long a1, .null, .int a3, .int a4] [] z Q :=
  tq_lp_T (σ := Int32 × tq_S) (s := (a3, z)) (G := fun s => tq_T K 0 x mm_J7_fill_d0a16 6 [.ref 40, .long a1, .null, .int s.1, .int a4] [] s.2 Q) (fun B hB s h => ab_J7_fill_d0a16_r5_6 (fun b3 z h => hB (b3, z) h) h) h
def wm_J7_fill_d0a16_r5 (a1 : Int64) (z : tq_S) (Q : tq_O → tq_S → Prop) : Prop := ∀ v1 : Int32, v1 = (Int32.ofNat 64) → wc_J7_fill_d0a16_r5_6 Q a1 (0 : Int32) v1 z
theorem am_J7_fill_d0a16_r5 {K : Nat × (Nat → Int32)} {x : Nat} {z : tq_S} {Q : tq_O → tq_S → Prop} {a1 : Int64} (h : wm_J7_fill_d0a16_r5 a1 z Q) : tq_M K 0 x mm_J7_fill_d0a16 [.ref 40, .long a1] z Q := by
  unfold wm_J7_fill_d0a16_r5 at h
  refine tq_enter (L := [.ref 40, .long a1, .null, .null, .null]) mf_J7_fill_d0a16.1 rfl rfl (Nat.le_of_ble_eq_true rfl) ?_
  refine tq_k_ic (n := 0) (v := (0 : Int32)) (by decide +kernel) kc_0 ?_
  refine tq_s_istore_n (kk := 3) (L9 := [.ref 40, .long a1, .null, .int (0 : Int32), .null]) (by decide +kernel) (by decide) rfl ?_
  refine tq_s_aload_n (kk := 0) (by decide +kernel) rfl ?_
  refine tq_s_alen (by decide +kernel) sh_40 (by decide) ?_
  refine tq_g_istore (i := 4) (fun v1 => [.ref 40, .long a1, .null, .int (0 : Int32), .int v1]) (by decide +kernel) (by decide) (fun _ => rfl) (fun v1 ev1 => ?_)
  replace h := h v1 ev1
  exact ac_J7_fill_d0a16_r5_6 h
def wb_J7_fill_d0a16_r6_6 (B6 : Int32 → tq_S → Prop) (Q : tq_O → tq_S → Prop) (a1 : Int64) (a3 : Int32) (a4 : Int32) (z : tq_S) : Prop := ((a4 ≤ a3 → Q (.inl none) z) ∧ (¬ a4 ≤ a3 → vp_in a3 64 ∧ ∀ z101 : tq_S, z101 = tq_sal z 41 (vp_updL (tq_al z 41) (Int32.toNatClampNeg a3) a1) → ∀ v102 : Int32, v102 = a3 + (1 : Int32) → B6 v102 z101))
def wc_J7_fill_d0a16_r6_6 (Q : tq_O → tq_S → Prop) (a1 : Int64) (a3 : Int32) (a4 : Int32) (z : tq_S) : Prop := tq_lp (σ := Int32 × tq_S) (fun B s => wb_J7_fill_d0a16_r6_6 (fun b3 z => B (b3, z)) Q a1 s.1 a4 s.2) (a3, z)
theorem ab_J7_fill_d0a16_r6_6 {K : Nat × (Nat → Int32)} {x : Nat} {Q : tq_O → tq_S → Prop} {B6 : Int32 → tq_S → Prop} {a1 : Int64} {a3 : Int32} {a4 : Int32} {z : tq_S} (hB6 : ∀ (b3 : Int32) (z : tq_S), B6 b3 z → tq_T K 0 x mm_J7_fill_d0a16 6 [.ref 41, .long a1, .null, .int b3, .int a4] [] z Q) (h : wb_J7_fill_d0a16_r6_6 B6 Q a1 a3 a4 z) : tq_T K 0 x mm_J7_fill_d0a16 6 [.ref 41, .long a1, .null, .int a3, .int a4] [] z Q := by
  unfold wb_J7_fill_d0a16_r6_6 at h
  refine tq_s_iload_n (kk := 3) (by decide +kernel) rfl ?_
  refine tq_s_iload (i := 4) (by decide +kernel) rfl ?_
  refine tq_icmp_ge (off := 13) (tgt := 22) (by decide +kernel) (by decide +kernel) (fun hc => ?_) (fun hc => ?_)
  · replace h := h.1 hc
    exact tq_ret_v (st := []) (by decide +kernel) rfl h
  · replace h := h.2 hc
    refine tq_s_aload_n (kk := 0) (by decide +kernel) rfl ?_
    refine tq_s_iload_n (kk := 3) (by decide +kernel) rfl ?_
    refine tq_s_lload_n (kk := 1) (by decide +kernel) rfl ?_
    refine tq_g_last (by decide +kernel) sh_41 h.1 (fun z101 ez101 => ?_)
    replace h := h.2 z101 ez101
    refine tq_g_iinc (i := 3) (fun v102 => [.ref 41, .long a1, .null, .int v102, .int a4]) (by decide +kernel) rfl (1 : Int32) kc_1 (fun _ => rfl) (fun v102 ev102 => ?_)
    replace h := h v102 ev102
    refine tq_s_goto (off := -13) (tgt := 6) (by decide +kernel) (by decide +kernel) ?_
    exact hB6 _ _ h
theorem ac_J7_fill_d0a16_r6_6 {K : Nat × (Nat → Int32)} {x : Nat} {Q : tq_O → tq_S → Prop} {a1 : Int64} {a3 : Int32} {a4 : Int32} {z : tq_S} (h : wc_J7_fill_d0a16_r6_6 Q a1 a3 a4 z) : tq_T K 0 x mm_J7_fill_d0a16 6 [.ref 41, .long a1, .null, .int a3, .int a4] [] z Q :=
  tq_lp_T (σ := Int32 × tq_S) (s := (a3, z)) (G := fun s => tq_T K 0 x mm_J7_fill_d0a16 6 [.ref 41, .long a1, .null, .int s.1, .int a4] [] s.2 Q) (fun B hB s h => ab_J7_fill_d0a16_r6_6 (fun b3 z h => hB (b3, z) h) h) h
def wm_J7_fill_d0a16_r6 (a1 : Int64) (z : tq_S) (Q : tq_O → tq_S → Prop) : Prop := ∀ v1 : Int32, v1 = (Int32.ofNat 64) → wc_J7_fill_d0a16_r6_6 Q a1 (0 : Int32) v1 z
theorem am_J7_fill_d0a16_r6 {K : Nat × (Nat → Int32)} {x : Nat} {z : tq_S} {Q : tq_O → tq_S → Prop} {a1 : Int64} (h : wm_J7_fill_d0a16_r6 a1 z Q) : tq_M K 0 x mm_J7_fill_d0a16 [.ref 41, .long a1] z Q := by
  unfold wm_J7_fill_d0a16_r6 at h
  refine tq_enter (L := [.ref 41, .long a1, .null, .null, .null]) mf_J7_fill_d0a16.1 rfl rfl (Nat.le_of_ble_eq_true rfl) ?_
  refine tq_k_ic (n := 0) (v := (0 : Int32)) (by decide +kernel) kc_0 ?_
  refine tq_s_istore_n (kk := 3) (L9 := [.ref 41, .long a1, .null, .int (0 : Int32), .null]) (by decide +kernel) (by decide) rfl ?_
  refine tq_s_aload_n (kk := 0) (by decide +kernel) rfl ?_
  refine tq_s_alen (by decide +kernel) sh_41 (by decide) ?_
  refine tq_g_istore (i := 4) (fun v1 => [.ref 41, .long a1, .null, .int (0 : Int32), .int v1]) (by decide +kernel) (by decide) (fun _ => rfl) (fun v1 ev1 => ?_)
  replace h := h v1 ev1
  exact ac_J7_fill_d0a16_r6_6 h
def wc_X6_passCell_113 (B20 : Int32 → tq_S → Prop) (Q : tq_O → tq_S → Prop) (a1 : Int32) (a2 : Int32) (a3 : Int32) (a4 : Int32) (a5 : Int32) (z : tq_S) : Prop := ∀ v101 : Int32, v101 = a5 + (1 : Int32) → B20 v101 z
theorem ac_X6_passCell_113 {K : Nat × (Nat → Int32)} {x : Nat} {Q : tq_O → tq_S → Prop} {B20 : Int32 → tq_S → Prop} {a1 : Int32} {a2 : Int32} {a3 : Int32} {a4 : Int32} {a5 : Int32} {z : tq_S} (hB20 : ∀ (b5 : Int32) (z : tq_S), B20 b5 z → tq_T K 1 x mm_X6_passCell 20 [.ref 38, .int a1, .int a2, .int a3, .int a4, .int b5] [] z Q) (h : wc_X6_passCell_113 B20 Q a1 a2 a3 a4 a5 z) : tq_T K 1 x mm_X6_passCell 113 [.ref 38, .int a1, .int a2, .int a3, .int a4, .int a5] [] z Q := by
  unfold wc_X6_passCell_113 at h
  refine tq_g_iinc (i := 5) (fun v101 => [.ref 38, .int a1, .int a2, .int a3, .int a4, .int v101]) (by decide +kernel) rfl (1 : Int32) kc_1 (fun _ => rfl) (fun v101 ev101 => ?_)
  replace h := h v101 ev101
  refine tq_s_goto (off := -96) (tgt := 20) (by decide +kernel) (by decide +kernel) ?_
  exact hB20 _ _ h
def wb_X6_passCell_20 (B20 : Int32 → tq_S → Prop) (Q : tq_O → tq_S → Prop) (a1 : Int32) (a2 : Int32) (a3 : Int32) (a4 : Int32) (a5 : Int32) (z : tq_S) : Prop := ((((1 : Int32) <<< (a2 &&& 31)) ≤ a5 → Q (.inl none) z) ∧ (¬ ((1 : Int32) <<< (a2 &&& 31)) ≤ a5 → (((a5 &&& a3) = 0 → vp_in (a5 ||| a3) 64 ∧ vp_in a5 64 ∧ vp_in (a5 ||| a3) 64 ∧ ∀ z101 : tq_S, z101 = tq_sal z 41 (vp_updL (tq_al z 41) (Int32.toNatClampNeg (a5 ||| a3)) ((tq_al z 41 (Int32.toNatClampNeg (a5 ||| a3))) + (tq_al z 40 (Int32.toNatClampNeg a5)))) → ((a2 ≤ (a1 + (1 : Int32)) → wc_X6_passCell_113 B20 Q a1 a2 a3 a4 a5 z101) ∧ (¬ a2 ≤ (a1 + (1 : Int32)) → ((¬ (a5 &&& a4) = 0 → wc_X6_passCell_113 B20 Q a1 a2 a3 a4 a5 z101) ∧ ((a5 &&& a4) = 0 → vp_in (a5 ||| a4) 64 ∧ vp_in a5 64 ∧ vp_in (a5 ||| a4) 64 ∧ ∀ z102 : tq_S, z102 = tq_sal z101 41 (vp_updL (tq_al z101 41) (Int32.toNatClampNeg (a5 ||| a4)) ((tq_al z101 41 (Int32.toNatClampNeg (a5 ||| a4))) + (tq_al z101 40 (Int32.toNatClampNeg a5)))) → wc_X6_passCell_113 B20 Q a1 a2 a3 a4 a5 z102))))) ∧ (¬ (a5 &&& a3) = 0 → vp_in (a5 &&& (a3 ^^^ (-1 : Int32))) 64 ∧ vp_in a5 64 ∧ vp_in (a5 &&& (a3 ^^^ (-1 : Int32))) 64 ∧ ∀ z103 : tq_S, z103 = tq_sal z 41 (vp_updL (tq_al z 41) (Int32.toNatClampNeg (a5 &&& (a3 ^^^ (-1 : Int32)))) ((tq_al z 41 (Int32.toNatClampNeg (a5 &&& (a3 ^^^ (-1 : Int32))))) + (tq_al z 40 (Int32.toNatClampNeg a5)))) → wc_X6_passCell_113 B20 Q a1 a2 a3 a4 a5 z103))))
def wc_X6_passCell_20 (Q : tq_O → tq_S → Prop) (a1 : Int32) (a2 : Int32) (a3 : Int32) (a4 : Int32) (a5 : Int32) (z : tq_S) : Prop := tq_lp (σ := Int32 × tq_S) (fun B s => wb_X6_passCell_20 (fun b5 z => B (b5, z)) Q a1 a2 a3 a4 s.1 s.2) (a5, z)
theorem ab_X6_passCell_20 {K : Nat × (Nat → Int32)} {x : Nat} {Q : tq_O → tq_S → Prop} {B20 : Int32 → tq_S → Prop} {a1 : Int32} {a2 : Int32} {a3 : Int32} {a4 : Int32} {a5 : Int32} {z : tq_S} (hB20 : ∀ (b5 : Int32) (z : tq_S), B20 b5 z → tq_T K 1 x mm_X6_passCell 20 [.ref 38, .int a1, .int a2, .int a3, .int a4, .int b5] [] z Q) (h : wb_X6_passCell_20 B20 Q a1 a2 a3 a4 a5 z) : tq_T K 1 x mm_X6_passCell 20 [.ref 38, .int a1, .int a2, .int a3, .int a4, .int a5] [] z Q := by
  unfold wb_X6_passCell_20 at h
  refine tq_s_iload (i := 5) (by decide +kernel) rfl ?_
  refine tq_k_ic (n := 1) (v := (1 : Int32)) (by decide +kernel) kc_1 ?_
  refine tq_s_iload_n (kk := 2) (by decide +kernel) rfl ?_
  refine tq_s_ishl (by decide +kernel) ?_
  refine tq_icmp_ge (off := 94) (tgt := 119) (by decide +kernel) (by decide +kernel) (fun hc => ?_) (fun hc => ?_)
  · replace h := h.1 hc
    exact tq_ret_v (st := []) (by decide +kernel) rfl h
  · replace h := h.2 hc
    refine tq_s_iload (i := 5) (by decide +kernel) rfl ?_
    refine tq_s_iload_n (kk := 3) (by decide +kernel) rfl ?_
    refine tq_s_iand (by decide +kernel) ?_
    refine tq_if_eq (off := 27) (tgt := 59) (by decide +kernel) (by decide +kernel) (fun hc => ?_) (fun hc => ?_)
    · replace h := h.1 hc
      refine tq_s_aload_n (kk := 0) (by decide +kernel) rfl ?_
      refine fg_6_17_38 rfl (by decide +kernel) ?_
      refine tq_s_iload (i := 5) (by decide +kernel) rfl ?_
      refine tq_s_iload_n (kk := 3) (by decide +kernel) rfl ?_
      refine tq_s_ior (by decide +kernel) ?_
      refine tq_s_dup2_11 (by decide +kernel) rfl rfl ?_
      refine tq_s_lald (by decide +kernel) sh_41 h.1 ?_
      replace h := h.2
      refine tq_s_aload_n (kk := 0) (by decide +kernel) rfl ?_
      refine fg_6_13_38 rfl (by decide +kernel) ?_
      refine tq_s_iload (i := 5) (by decide +kernel) rfl ?_
      refine tq_s_lald (by decide +kernel) sh_40 h.1 ?_
      replace h := h.2
      refine tq_s_ladd (by decide +kernel) ?_
      refine tq_g_last (by decide +kernel) sh_41 h.1 (fun z101 ez101 => ?_)
      replace h := h.2 z101 ez101
      refine tq_s_iload_n (kk := 1) (by decide +kernel) rfl ?_
      refine tq_k_ic (n := 1) (v := (1 : Int32)) (by decide +kernel) kc_1 ?_
      refine tq_s_iadd (by decide +kernel) ?_
      refine tq_s_iload_n (kk := 2) (by decide +kernel) rfl ?_
      refine tq_icmp_ge (off := 31) (tgt := 113) (by decide +kernel) (by decide +kernel) (fun hc => ?_) (fun hc => ?_)
      · replace h := h.1 hc
        exact ac_X6_passCell_113 hB20 h
      · replace h := h.2 hc
        refine tq_s_iload (i := 5) (by decide +kernel) rfl ?_
        refine tq_s_iload (i := 4) (by decide +kernel) rfl ?_
        refine tq_s_iand (by decide +kernel) ?_
        refine tq_if_ne (off := 23) (tgt := 113) (by decide +kernel) (by decide +kernel) (fun hc => ?_) (fun hc => ?_)
        · replace h := h.1 hc
          exact ac_X6_passCell_113 hB20 h
        · replace h := h.2 hc
          refine tq_s_aload_n (kk := 0) (by decide +kernel) rfl ?_
          refine fg_6_17_38 rfl (by decide +kernel) ?_
          refine tq_s_iload (i := 5) (by decide +kernel) rfl ?_
          refine tq_s_iload (i := 4) (by decide +kernel) rfl ?_
          refine tq_s_ior (by decide +kernel) ?_
          refine tq_s_dup2_11 (by decide +kernel) rfl rfl ?_
          refine tq_s_lald (by decide +kernel) sh_41 h.1 ?_
          replace h := h.2
          refine tq_s_aload_n (kk := 0) (by decide +kernel) rfl ?_
          refine fg_6_13_38 rfl (by decide +kernel) ?_
          refine tq_s_iload (i := 5) (by decide +kernel) rfl ?_
          refine tq_s_lald (by decide +kernel) sh_40 h.1 ?_
          replace h := h.2
          refine tq_s_ladd (by decide +kernel) ?_
          refine tq_g_last (by decide +kernel) sh_41 h.1 (fun z102 ez102 => ?_)
          replace h := h.2 z102 ez102
          exact ac_X6_passCell_113 hB20 h
    · replace h := h.2 hc
      refine tq_s_aload_n (kk := 0) (by decide +kernel) rfl ?_
      refine fg_6_17_38 rfl (by decide +kernel) ?_
      refine tq_s_iload (i := 5) (by decide +kernel) rfl ?_
      refine tq_s_iload_n (kk := 3) (by decide +kernel) rfl ?_
      refine tq_k_ic (n := -1) (v := (-1 : Int32)) (by decide +kernel) kc_m1 ?_
      refine tq_s_ixor (by decide +kernel) ?_
      refine tq_s_iand (by decide +kernel) ?_
      refine tq_s_dup2_11 (by decide +kernel) rfl rfl ?_
      refine tq_s_lald (by decide +kernel) sh_41 h.1 ?_
      replace h := h.2
      refine tq_s_aload_n (kk := 0) (by decide +kernel) rfl ?_
      refine fg_6_13_38 rfl (by decide +kernel) ?_
      refine tq_s_iload (i := 5) (by decide +kernel) rfl ?_
      refine tq_s_lald (by decide +kernel) sh_40 h.1 ?_
      replace h := h.2
      refine tq_s_ladd (by decide +kernel) ?_
      refine tq_g_last (by decide +kernel) sh_41 h.1 (fun z103 ez103 => ?_)
      replace h := h.2 z103 ez103
      refine tq_s_goto (off := 57) (tgt := 113) (by decide +kernel) (by decide +kernel) ?_
      exact ac_X6_passCell_113 hB20 h
theorem ac_X6_passCell_20 {K : Nat × (Nat → Int32)} {x : Nat} {Q : tq_O → tq_S → Prop} {a1 : Int32} {a2 : Int32} {a3 : Int32} {a4 : Int32} {a5 : Int32} {z : tq_S} (h : wc_X6_passCell_20 Q a1 a2 a3 a4 a5 z) : tq_T K 1 x mm_X6_passCell 20 [.ref 38, .int a1, .int a2, .int a3, .int a4, .int a5] [] z Q :=
  tq_lp_T (σ := Int32 × tq_S) (s := (a5, z)) (G := fun s => tq_T K 1 x mm_X6_passCell 20 [.ref 38, .int a1, .int a2, .int a3, .int a4, .int s.1] [] s.2 Q) (fun B hB s h => ab_X6_passCell_20 (fun b5 z h => hB (b5, z) h) h) h
def wm_X6_passCell (a1 : Int32) (a2 : Int32) (z : tq_S) (Q : tq_O → tq_S → Prop) : Prop := ∀ v1 : Int32, v1 = ((1 : Int32) <<< (a1 &&& 31)) → ∀ v2 : Int32, v2 = (v1 <<< ((1 : Int32) &&& 31)) → wm_J7_fill_d0a16_r6 (0 : Int64) z (tq_wv fun z3 => wc_X6_passCell_20 Q a1 a2 v1 v2 (0 : Int32) z3)
theorem am_X6_passCell {K : Nat × (Nat → Int32)} {x : Nat} {z : tq_S} {Q : tq_O → tq_S → Prop} {a1 : Int32} {a2 : Int32} (h : wm_X6_passCell a1 a2 z Q) : tq_M K 1 x mm_X6_passCell [.ref 38, .int a1, .int a2] z Q := by
  unfold wm_X6_passCell at h
  refine tq_enter (L := [.ref 38, .int a1, .int a2, .null, .null, .null]) mf_X6_passCell.1 rfl rfl (Nat.le_of_ble_eq_true rfl) ?_
  refine tq_k_ic (n := 1) (v := (1 : Int32)) (by decide +kernel) kc_1 ?_
  refine tq_s_iload_n (kk := 1) (by decide +kernel) rfl ?_
  refine tq_s_ishl (by decide +kernel) ?_
  refine tq_g_istore_n (kk := 3) (fun v1 => [.ref 38, .int a1, .int a2, .int v1, .null, .null]) (by decide +kernel) (by decide) (fun _ => rfl) (fun v1 ev1 => ?_)
  replace h := h v1 ev1
  refine tq_s_iload_n (kk := 3) (by decide +kernel) rfl ?_
  refine tq_k_ic (n := 1) (v := (1 : Int32)) (by decide +kernel) kc_1 ?_
  refine tq_s_ishl (by decide +kernel) ?_
  refine tq_g_istore (i := 4) (fun v2 => [.ref 38, .int a1, .int a2, .int v1, .int v2, .null]) (by decide +kernel) (by decide) (fun _ => rfl) (fun v2 ev2 => ?_)
  replace h := h v2 ev2
  refine tq_s_aload_n (kk := 0) (by decide +kernel) rfl ?_
  refine fg_6_17_38 rfl (by decide +kernel) ?_
  refine tq_k_lc (n := 0) (v := (0 : Int64)) (by decide +kernel) (by decide +kernel) ?_
  refine tq_callS (as := [.ref 41, .long (0 : Int64)]) (st := []) (d1 := 0) (x1 := 0) (x2 := x) (by decide +kernel) ln_6_63 mf_J7_fill_d0a16 rfl (by decide) np_J7_fill_d0a16 rfl (Nat.le_of_ble_eq_true rfl) (by decide) (Nat.zero_add _).symm (tq_M_mono (am_J7_fill_d0a16_r6 h) ?_)
  refine tq_wv_e (fun z3 h => ?_)
  refine tq_k_ic (n := 0) (v := (0 : Int32)) (by decide +kernel) kc_0 ?_
  refine tq_s_istore (i := 5) (L9 := [.ref 38, .int a1, .int a2, .int v1, .int v2, .int (0 : Int32)]) (by decide +kernel) (by decide) rfl ?_
  exact ac_X6_passCell_20 h
def wc_X6_byFront_62 (B17 : Int32 → tq_S → Prop) (Q : tq_O → tq_S → Prop) (a1 : Int32) (a2 : Int32) (a3 : Int32) (z : tq_S) : Prop := ∀ v101 : Int32, v101 = a3 + (1 : Int32) → B17 v101 z
theorem ac_X6_byFront_62 {K : Nat × (Nat → Int32)} {x : Nat} {Q : tq_O → tq_S → Prop} {B17 : Int32 → tq_S → Prop} {a1 : Int32} {a2 : Int32} {a3 : Int32} {z : tq_S} (hB17 : ∀ (b3 : Int32) (z : tq_S), B17 b3 z → tq_T K 2 x mm_X6_byFront 17 [.ref 38, .int a1, .int a2, .int b3, .null] [] z Q) (h : wc_X6_byFront_62 B17 Q a1 a2 a3 z) : tq_T K 2 x mm_X6_byFront 62 [.ref 38, .int a1, .int a2, .int a3, .null] [] z Q := by
  unfold wc_X6_byFront_62 at h
  refine tq_g_iinc (i := 3) (fun v101 => [.ref 38, .int a1, .int a2, .int v101, .null]) (by decide +kernel) rfl (1 : Int32) kc_1 (fun _ => rfl) (fun v101 ev101 => ?_)
  replace h := h v101 ev101
  refine tq_s_goto (off := -48) (tgt := 17) (by decide +kernel) (by decide +kernel) ?_
  exact hB17 _ _ h
def wb_X6_byFront_25 (B17 : Int32 → tq_S → Prop) (B25 : Int32 → tq_S → Prop) (Q : tq_O → tq_S → Prop) (a1 : Int32) (a2 : Int32) (a3 : Int32) (a4 : Int32) (z : tq_S) : Prop := ((a1 ≤ a4 → wc_X6_byFront_62 B17 Q a1 a2 a3 z) ∧ (¬ a1 ≤ a4 → wm_X6_passCell a4 a1 z (tq_wv fun z101 => (¬ (0 : Int32) < 0) ∧ (¬ (0 : Int32) < 0) ∧ (¬ (Int32.ofNat 64) < 0) ∧ (Int32.toNatClampNeg (0 : Int32) + Int32.toNatClampNeg (Int32.ofNat 64) ≤ 64) ∧ (Int32.toNatClampNeg (0 : Int32) + Int32.toNatClampNeg (Int32.ofNat 64) ≤ 64) ∧ ∀ z102 : tq_S, z102 = tq_sal z101 40 (va_cpy (tq_al z101 41) (tq_al z101 40) (Int32.toNatClampNeg (0 : Int32)) (Int32.toNatClampNeg (0 : Int32)) (Int32.toNatClampNeg (Int32.ofNat 64))) → ∀ v103 : Int32, v103 = a4 + (1 : Int32) → B25 v103 z102)))
def wc_X6_byFront_25 (B17 : Int32 → tq_S → Prop) (Q : tq_O → tq_S → Prop) (a1 : Int32) (a2 : Int32) (a3 : Int32) (a4 : Int32) (z : tq_S) : Prop := tq_lp (σ := Int32 × tq_S) (fun B s => wb_X6_byFront_25 B17 (fun b4 z => B (b4, z)) Q a1 a2 a3 s.1 s.2) (a4, z)
theorem ab_X6_byFront_25 {K : Nat × (Nat → Int32)} {x : Nat} {Q : tq_O → tq_S → Prop} {B17 : Int32 → tq_S → Prop} {B25 : Int32 → tq_S → Prop} {a1 : Int32} {a2 : Int32} {a3 : Int32} {a4 : Int32} {z : tq_S} (hB17 : ∀ (b3 : Int32) (z : tq_S), B17 b3 z → tq_T K 2 x mm_X6_byFront 17 [.ref 38, .int a1, .int a2, .int b3, .null] [] z Q) (hB25 : ∀ (b4 : Int32) (z : tq_S), B25 b4 z → tq_T K 2 x mm_X6_byFront 25 [.ref 38, .int a1, .int a2, .int a3, .int b4] [] z Q) (h : wb_X6_byFront_25 B17 B25 Q a1 a2 a3 a4 z) : tq_T K 2 x mm_X6_byFront 25 [.ref 38, .int a1, .int a2, .int a3, .int a4] [] z Q := by
  unfold wb_X6_byFront_25 at h
  refine tq_s_iload (i := 4) (by decide +kernel) rfl ?_
  refine tq_s_iload_n (kk := 1) (by decide +kernel) rfl ?_
  refine tq_icmp_ge (off := 34) (tgt := 62) (by decide +kernel) (by decide +kernel) (fun hc => ?_) (fun hc => ?_)
  · replace h := h.1 hc
    exact tq_to (tq_lk1 (tq_lk1 (tq_lk1 (tq_lk1 (tq_ld1 tq_l0))))) (ac_X6_byFront_62 hB17 h)
  · replace h := h.2 hc
    refine tq_s_aload_n (kk := 0) (by decide +kernel) rfl ?_
    refine tq_s_iload (i := 4) (by decide +kernel) rfl ?_
    refine tq_s_iload_n (kk := 1) (by decide +kernel) rfl ?_
    refine tq_callV (as := [.int a4, .int a1]) (st := []) (d1 := 1) (x1 := 0) (x2 := x) (by decide +kernel) ln_6_69 mf_X6_passCell rfl sh_38 rfl (by decide) np_X6_passCell rfl (Nat.le_of_ble_eq_true rfl) (by decide) (Nat.zero_add _).symm (tq_M_mono (am_X6_passCell h) ?_)
    refine tq_wv_e (fun z101 h => ?_)
    refine tq_s_aload_n (kk := 0) (by decide +kernel) rfl ?_
    refine fg_6_17_38 rfl (by decide +kernel) ?_
    refine tq_k_ic (n := 0) (v := (0 : Int32)) (by decide +kernel) kc_0 ?_
    refine tq_s_aload_n (kk := 0) (by decide +kernel) rfl ?_
    refine fg_6_13_38 rfl (by decide +kernel) ?_
    refine tq_k_ic (n := 0) (v := (0 : Int32)) (by decide +kernel) kc_0 ?_
    refine tq_s_aload_n (kk := 0) (by decide +kernel) rfl ?_
    refine fg_6_13_38 rfl (by decide +kernel) ?_
    refine tq_s_alen (by decide +kernel) sh_40 (by decide) ?_
    refine tq_g_acopyl (by decide +kernel) la_6_72 sh_41 sh_40 h.1 h.2.1 h.2.2.1 h.2.2.2.1 h.2.2.2.2.1 (Nat.le_of_ble_eq_true rfl) (fun z102 ez102 => ?_)
    replace h := h.2.2.2.2.2 z102 ez102
    refine tq_g_iinc (i := 4) (fun v103 => [.ref 38, .int a1, .int a2, .int a3, .int v103]) (by decide +kernel) rfl (1 : Int32) kc_1 (fun _ => rfl) (fun v103 ev103 => ?_)
    replace h := h v103 ev103
    refine tq_s_goto (off := -34) (tgt := 25) (by decide +kernel) (by decide +kernel) ?_
    exact hB25 _ _ h
theorem ac_X6_byFront_25 {K : Nat × (Nat → Int32)} {x : Nat} {Q : tq_O → tq_S → Prop} {B17 : Int32 → tq_S → Prop} {a1 : Int32} {a2 : Int32} {a3 : Int32} {a4 : Int32} {z : tq_S} (hB17 : ∀ (b3 : Int32) (z : tq_S), B17 b3 z → tq_T K 2 x mm_X6_byFront 17 [.ref 38, .int a1, .int a2, .int b3, .null] [] z Q) (h : wc_X6_byFront_25 B17 Q a1 a2 a3 a4 z) : tq_T K 2 x mm_X6_byFront 25 [.ref 38, .int a1, .int a2, .int a3, .int a4] [] z Q :=
  tq_lp_T (σ := Int32 × tq_S) (s := (a4, z)) (G := fun s => tq_T K 2 x mm_X6_byFront 25 [.ref 38, .int a1, .int a2, .int a3, .int s.1] [] s.2 Q) (fun B hB s h => ab_X6_byFront_25 hB17 (fun b4 z h => hB (b4, z) h) h) h
def wc_X6_byFront_68 (Q : tq_O → tq_S → Prop)  (z : tq_S) : Prop := Q (.inl (some (.long (tq_al z 40 (Int32.toNatClampNeg (0 : Int32)))))) z
theorem ac_X6_byFront_68 {K : Nat × (Nat → Int32)} {x : Nat} {Q : tq_O → tq_S → Prop}  {z : tq_S} (h : wc_X6_byFront_68 Q z) : tq_T K 2 x mm_X6_byFront 68 [.ref 38, .null, .null, .null, .null] [] z Q := by
  unfold wc_X6_byFront_68 at h
  refine tq_s_aload_n (kk := 0) (by decide +kernel) rfl ?_
  refine fg_6_13_38 rfl (by decide +kernel) ?_
  refine tq_k_ic (n := 0) (v := (0 : Int32)) (by decide +kernel) kc_0 ?_
  refine tq_s_lald (by decide +kernel) sh_40 vi_0_64 ?_
  exact tq_ret_l (st := []) (by decide +kernel) rfl h
def wb_X6_byFront_17 (B17 : Int32 → tq_S → Prop) (Q : tq_O → tq_S → Prop) (a1 : Int32) (a2 : Int32) (a3 : Int32) (z : tq_S) : Prop := ((a2 ≤ a3 → wc_X6_byFront_68 Q z) ∧ (¬ a2 ≤ a3 → wc_X6_byFront_25 B17 Q a1 a2 a3 (0 : Int32) z))
def wc_X6_byFront_17 (Q : tq_O → tq_S → Prop) (a1 : Int32) (a2 : Int32) (a3 : Int32) (z : tq_S) : Prop := tq_lp (σ := Int32 × tq_S) (fun B s => wb_X6_byFront_17 (fun b3 z => B (b3, z)) Q a1 a2 s.1 s.2) (a3, z)
theorem ab_X6_byFront_17 {K : Nat × (Nat → Int32)} {x : Nat} {Q : tq_O → tq_S → Prop} {B17 : Int32 → tq_S → Prop} {a1 : Int32} {a2 : Int32} {a3 : Int32} {z : tq_S} (hB17 : ∀ (b3 : Int32) (z : tq_S), B17 b3 z → tq_T K 2 x mm_X6_byFront 17 [.ref 38, .int a1, .int a2, .int b3, .null] [] z Q) (h : wb_X6_byFront_17 B17 Q a1 a2 a3 z) : tq_T K 2 x mm_X6_byFront 17 [.ref 38, .int a1, .int a2, .int a3, .null] [] z Q := by
  unfold wb_X6_byFront_17 at h
  refine tq_s_iload_n (kk := 3) (by decide +kernel) rfl ?_
  refine tq_s_iload_n (kk := 2) (by decide +kernel) rfl ?_
  refine tq_icmp_ge (off := 49) (tgt := 68) (by decide +kernel) (by decide +kernel) (fun hc => ?_) (fun hc => ?_)
  · replace h := h.1 hc
    exact tq_to (tq_lk1 (tq_ld1 (tq_ld1 (tq_ld1 (tq_lk1 tq_l0))))) (ac_X6_byFront_68 h)
  · replace h := h.2 hc
    refine tq_k_ic (n := 0) (v := (0 : Int32)) (by decide +kernel) kc_0 ?_
    refine tq_s_istore (i := 4) (L9 := [.ref 38, .int a1, .int a2, .int a3, .int (0 : Int32)]) (by decide +kernel) (by decide) rfl ?_
    exact ac_X6_byFront_25 hB17 h
theorem ac_X6_byFront_17 {K : Nat × (Nat → Int32)} {x : Nat} {Q : tq_O → tq_S → Prop} {a1 : Int32} {a2 : Int32} {a3 : Int32} {z : tq_S} (h : wc_X6_byFront_17 Q a1 a2 a3 z) : tq_T K 2 x mm_X6_byFront 17 [.ref 38, .int a1, .int a2, .int a3, .null] [] z Q :=
  tq_lp_T (σ := Int32 × tq_S) (s := (a3, z)) (G := fun s => tq_T K 2 x mm_X6_byFront 17 [.ref 38, .int a1, .int a2, .int s.1, .null] [] s.2 Q) (fun B hB s h => ab_X6_byFront_17 (fun b3 z h => hB (b3, z) h) h) h
def wm_X6_byFront (a1 : Int32) (a2 : Int32) (z : tq_S) (Q : tq_O → tq_S → Prop) : Prop := wm_J7_fill_d0a16_r5 (0 : Int64) z (tq_wv fun z1 => ∀ z2 : tq_S, z2 = tq_sal z1 40 (vp_updL (tq_al z1 40) (Int32.toNatClampNeg (0 : Int32)) (1 : Int64)) → wc_X6_byFront_17 Q a1 a2 (0 : Int32) z2)
theorem am_X6_byFront {K : Nat × (Nat → Int32)} {x : Nat} {z : tq_S} {Q : tq_O → tq_S → Prop} {a1 : Int32} {a2 : Int32} (h : wm_X6_byFront a1 a2 z Q) : tq_M K 2 x mm_X6_byFront [.ref 38, .int a1, .int a2] z Q := by
  unfold wm_X6_byFront at h
  refine tq_enter (L := [.ref 38, .int a1, .int a2, .null, .null]) mf_X6_byFront.1 rfl rfl (Nat.le_of_ble_eq_true rfl) ?_
  refine tq_s_aload_n (kk := 0) (by decide +kernel) rfl ?_
  refine fg_6_13_38 rfl (by decide +kernel) ?_
  refine tq_k_lc (n := 0) (v := (0 : Int64)) (by decide +kernel) (by decide +kernel) ?_
  refine tq_callS (as := [.ref 40, .long (0 : Int64)]) (st := []) (d1 := 0) (x1 := 0) (x2 := x) (by decide +kernel) ln_6_63 mf_J7_fill_d0a16 rfl (by decide) np_J7_fill_d0a16 rfl (Nat.le_of_ble_eq_true rfl) (by decide) (Nat.zero_add _).symm (tq_M_mono (am_J7_fill_d0a16_r5 h) ?_)
  refine tq_wv_e (fun z1 h => ?_)
  refine tq_s_aload_n (kk := 0) (by decide +kernel) rfl ?_
  refine fg_6_13_38 rfl (by decide +kernel) ?_
  refine tq_k_ic (n := 0) (v := (0 : Int32)) (by decide +kernel) kc_0 ?_
  refine tq_k_lc (n := 1) (v := (1 : Int64)) (by decide +kernel) (by decide +kernel) ?_
  refine tq_g_last (by decide +kernel) sh_40 vi_0_64 (fun z2 ez2 => ?_)
  replace h := h z2 ez2
  refine tq_k_ic (n := 0) (v := (0 : Int32)) (by decide +kernel) kc_0 ?_
  refine tq_s_istore_n (kk := 3) (L9 := [.ref 38, .int a1, .int a2, .int (0 : Int32), .null]) (by decide +kernel) (by decide) rfl ?_
  exact ac_X6_byFront_17 h
def wb_X6_putTerm_15 (B15 : Int64 → Int32 → tq_S → Prop) (Q : tq_O → tq_S → Prop) (a4 : Int32) (a5 : Int64) (a7 : Int32) (z : tq_S) : Prop := (((26 : Int32) ≤ a7 → Q (.inl none) z) ∧ (¬ (26 : Int32) ≤ a7 → vp_in (a4 + a7) 234 ∧ ∀ z101 : tq_S, z101 = tq_sai z 39 (upd (tq_ai z 39) (Int32.toNatClampNeg (a4 + a7)) (Int64.toInt32 (a5 - a5 / (1000000000 : Int64) * (1000000000 : Int64)))) → ∀ v102 : Int64, v102 = (a5 / (1000000000 : Int64)) → ∀ v103 : Int32, v103 = a7 + (1 : Int32) → B15 v102 v103 z101))
def wc_X6_putTerm_15 (Q : tq_O → tq_S → Prop) (a4 : Int32) (a5 : Int64) (a7 : Int32) (z : tq_S) : Prop := tq_lp (σ := Int64 × Int32 × tq_S) (fun B s => wb_X6_putTerm_15 (fun b5 b7 z => B (b5, b7, z)) Q a4 s.1 s.2.1 s.2.2) (a5, a7, z)
theorem ab_X6_putTerm_15 {K : Nat × (Nat → Int32)} {x : Nat} {Q : tq_O → tq_S → Prop} {B15 : Int64 → Int32 → tq_S → Prop} {a4 : Int32} {a5 : Int64} {a7 : Int32} {z : tq_S} (hB15 : ∀ (b5 : Int64) (b7 : Int32) (z : tq_S), B15 b5 b7 z → tq_T K 0 x mm_X6_putTerm 15 [.ref 38, .null, .null, .null, .int a4, .long b5, .null, .int b7] [] z Q) (h : wb_X6_putTerm_15 B15 Q a4 a5 a7 z) : tq_T K 0 x mm_X6_putTerm 15 [.ref 38, .null, .null, .null, .int a4, .long a5, .null, .int a7] [] z Q := by
  unfold wb_X6_putTerm_15 at h
  refine tq_s_iload (i := 7) (by decide +kernel) rfl ?_
  refine tq_k_bi (n := 26) (v := (26 : Int32)) (by decide +kernel) kb_26 ?_
  refine tq_icmp_ge (off := 34) (tgt := 53) (by decide +kernel) (by decide +kernel) (fun hc => ?_) (fun hc => ?_)
  · replace h := h.1 hc
    exact tq_ret_v (st := []) (by decide +kernel) rfl h
  · replace h := h.2 hc
    refine tq_s_aload_n (kk := 0) (by decide +kernel) rfl ?_
    refine fg_6_9_38 rfl (by decide +kernel) ?_
    refine tq_s_iload (i := 4) (by decide +kernel) rfl ?_
    refine tq_s_iload (i := 7) (by decide +kernel) rfl ?_
    refine tq_s_iadd (by decide +kernel) ?_
    refine tq_s_lload (i := 5) (by decide +kernel) rfl ?_
    refine tq_s_ldc2 (i := 48) (v := (1000000000 : Int64)) (by decide +kernel) (by decide +kernel) ?_
    refine tq_s_lrem (by decide +kernel) (by decide +kernel) ?_
    refine tq_s_l2i (by decide +kernel) ?_
    refine tq_g_iast (by decide +kernel) sh_39 h.1 (fun z101 ez101 => ?_)
    replace h := h.2 z101 ez101
    refine tq_s_lload (i := 5) (by decide +kernel) rfl ?_
    refine tq_s_ldc2 (i := 48) (v := (1000000000 : Int64)) (by decide +kernel) (by decide +kernel) ?_
    refine tq_s_ldiv (by decide +kernel) (by decide +kernel) ?_
    refine tq_g_lstore (i := 5) (fun v102 => [.ref 38, .null, .null, .null, .int a4, .long v102, .null, .int a7]) (by decide +kernel) (by decide) (fun _ => rfl) (fun v102 ev102 => ?_)
    replace h := h v102 ev102
    refine tq_g_iinc (i := 7) (fun v103 => [.ref 38, .null, .null, .null, .int a4, .long v102, .null, .int v103]) (by decide +kernel) rfl (1 : Int32) kc_1 (fun _ => rfl) (fun v103 ev103 => ?_)
    replace h := h v103 ev103
    refine tq_s_goto (off := -35) (tgt := 15) (by decide +kernel) (by decide +kernel) ?_
    exact hB15 _ _ _ h
theorem ac_X6_putTerm_15 {K : Nat × (Nat → Int32)} {x : Nat} {Q : tq_O → tq_S → Prop} {a4 : Int32} {a5 : Int64} {a7 : Int32} {z : tq_S} (h : wc_X6_putTerm_15 Q a4 a5 a7 z) : tq_T K 0 x mm_X6_putTerm 15 [.ref 38, .null, .null, .null, .int a4, .long a5, .null, .int a7] [] z Q :=
  tq_lp_T (σ := Int64 × Int32 × tq_S) (s := (a5, a7, z)) (G := fun s => tq_T K 0 x mm_X6_putTerm 15 [.ref 38, .null, .null, .null, .int a4, .long s.1, .null, .int s.2.1] [] s.2.2 Q) (fun B hB s h => ab_X6_putTerm_15 (fun b5 b7 z h => hB (b5, b7, z) h) h) h
def wm_X6_putTerm (a1 : Int32) (a2 : Int64) (z : tq_S) (Q : tq_O → tq_S → Prop) : Prop := ∀ v1 : Int32, v1 = ((a1 - a1 / (9 : Int32) * (9 : Int32)) * (26 : Int32)) → wc_X6_putTerm_15 Q v1 a2 (0 : Int32) z
theorem am_X6_putTerm {K : Nat × (Nat → Int32)} {x : Nat} {z : tq_S} {Q : tq_O → tq_S → Prop} {a1 : Int32} {a2 : Int64} (h : wm_X6_putTerm a1 a2 z Q) : tq_M K 0 x mm_X6_putTerm [.ref 38, .int a1, .long a2] z Q := by
  unfold wm_X6_putTerm at h
  refine tq_enter (L := [.ref 38, .int a1, .long a2, .null, .null, .null, .null, .null]) mf_X6_putTerm.1 rfl rfl (Nat.le_of_ble_eq_true rfl) ?_
  refine tq_s_iload_n (kk := 1) (by decide +kernel) rfl ?_
  refine tq_k_bi (n := 9) (v := (9 : Int32)) (by decide +kernel) kb_9 ?_
  refine tq_s_irem (by decide +kernel) (by decide +kernel) ?_
  refine tq_k_bi (n := 26) (v := (26 : Int32)) (by decide +kernel) kb_26 ?_
  refine tq_s_imul (by decide +kernel) ?_
  refine tq_g_istore (i := 4) (fun v1 => [.ref 38, .int a1, .long a2, .null, .int v1, .null, .null, .null]) (by decide +kernel) (by decide) (fun _ => rfl) (fun v1 ev1 => ?_)
  replace h := h v1 ev1
  refine tq_s_lload_n (kk := 2) (by decide +kernel) rfl ?_
  refine tq_s_lstore (i := 5) (L9 := [.ref 38, .int a1, .long a2, .null, .int v1, .long a2, .null, .null]) (by decide +kernel) (by decide) rfl ?_
  refine tq_k_ic (n := 0) (v := (0 : Int32)) (by decide +kernel) kc_0 ?_
  refine tq_s_istore (i := 7) (L9 := [.ref 38, .int a1, .long a2, .null, .int v1, .long a2, .null, .int (0 : Int32)]) (by decide +kernel) (by decide) rfl ?_
  exact tq_to (tq_lk1 (tq_ld1 (tq_ld1 (tq_lk1 (tq_lk1 (tq_lk1 (tq_lk1 (tq_lk1 tq_l0)))))))) (ac_X6_putTerm_15 h)
def wc_X0_putLimbs_66 (B13 : Int32 → tq_S → Prop) (Q : tq_O → tq_S → Prop) (a2 : Int32) (a3 : Int32) (a4 : Int32) (z : tq_S) : Prop := ∀ v101 : Int32, v101 = a4 + (1 : Int32) → B13 v101 z
theorem ac_X0_putLimbs_66 {K : Nat × (Nat → Int32)} {x : Nat} {Q : tq_O → tq_S → Prop} {B13 : Int32 → tq_S → Prop} {a2 : Int32} {a3 : Int32} {a4 : Int32} {z : tq_S} (hB13 : ∀ (b4 : Int32) (z : tq_S), B13 b4 z → tq_T K 0 x mm_X0_putLimbs 13 [.ref 46, .ref 39, .int a2, .int a3, .int b4] [] z Q) (h : wc_X0_putLimbs_66 B13 Q a2 a3 a4 z) : tq_T K 0 x mm_X0_putLimbs 66 [.ref 46, .ref 39, .int a2, .int a3, .int a4] [] z Q := by
  unfold wc_X0_putLimbs_66 at h
  refine tq_g_iinc (i := 4) (fun v101 => [.ref 46, .ref 39, .int a2, .int a3, .int v101]) (by decide +kernel) rfl (1 : Int32) kc_1 (fun _ => rfl) (fun v101 ev101 => ?_)
  replace h := h v101 ev101
  refine tq_s_goto (off := -56) (tgt := 13) (by decide +kernel) (by decide +kernel) ?_
  exact hB13 _ _ h
def wb_X0_putLimbs_13 (B13 : Int32 → tq_S → Prop) (Q : tq_O → tq_S → Prop) (a2 : Int32) (a3 : Int32) (a4 : Int32) (z : tq_S) : Prop := ((a3 ≤ a4 → Q (.inl none) z) ∧ (¬ a3 ≤ a4 → (((34 : Int32) ≤ a4 → Q (.inl none) z) ∧ (¬ (34 : Int32) ≤ a4 → (((Int32.ofNat 234) ≤ (a2 + a4) → Q (.inl none) z) ∧ (¬ (Int32.ofNat 234) ≤ (a2 + a4) → vp_in (a2 + a4) 234 ∧ vp_in a4 34 ∧ ∀ z101 : tq_S, z101 = tq_sai z 47 (upd (tq_ai z 47) (Int32.toNatClampNeg a4) (tq_ai z 39 (Int32.toNatClampNeg (a2 + a4)))) → vp_in a4 34 ∧ (((tq_ai z101 47 (Int32.toNatClampNeg a4)) = 0 → wc_X0_putLimbs_66 B13 Q a2 a3 a4 z101) ∧ (¬ (tq_ai z101 47 (Int32.toNatClampNeg a4)) = 0 → ∀ z102 : tq_S, z102 = tq_sfi z101 2945 (a4 + (1 : Int32)) → wc_X0_putLimbs_66 B13 Q a2 a3 a4 z102))))))))
def wc_X0_putLimbs_13 (Q : tq_O → tq_S → Prop) (a2 : Int32) (a3 : Int32) (a4 : Int32) (z : tq_S) : Prop := tq_lp (σ := Int32 × tq_S) (fun B s => wb_X0_putLimbs_13 (fun b4 z => B (b4, z)) Q a2 a3 s.1 s.2) (a4, z)
theorem ab_X0_putLimbs_13 {K : Nat × (Nat → Int32)} {x : Nat} {Q : tq_O → tq_S → Prop} {B13 : Int32 → tq_S → Prop} {a2 : Int32} {a3 : Int32} {a4 : Int32} {z : tq_S} (hB13 : ∀ (b4 : Int32) (z : tq_S), B13 b4 z → tq_T K 0 x mm_X0_putLimbs 13 [.ref 46, .ref 39, .int a2, .int a3, .int b4] [] z Q) (h : wb_X0_putLimbs_13 B13 Q a2 a3 a4 z) : tq_T K 0 x mm_X0_putLimbs 13 [.ref 46, .ref 39, .int a2, .int a3, .int a4] [] z Q := by
  unfold wb_X0_putLimbs_13 at h
  refine tq_s_iload (i := 4) (by decide +kernel) rfl ?_
  refine tq_s_iload_n (kk := 3) (by decide +kernel) rfl ?_
  refine tq_icmp_ge (off := 56) (tgt := 72) (by decide +kernel) (by decide +kernel) (fun hc => ?_) (fun hc => ?_)
  · replace h := h.1 hc
    exact tq_ret_v (st := []) (by decide +kernel) rfl h
  · replace h := h.2 hc
    refine tq_s_iload (i := 4) (by decide +kernel) rfl ?_
    refine tq_k_bi (n := 34) (v := (34 : Int32)) (by decide +kernel) kb_34 ?_
    refine tq_icmp_ge (off := 49) (tgt := 72) (by decide +kernel) (by decide +kernel) (fun hc => ?_) (fun hc => ?_)
    · replace h := h.1 hc
      exact tq_ret_v (st := []) (by decide +kernel) rfl h
    · replace h := h.2 hc
      refine tq_s_iload_n (kk := 2) (by decide +kernel) rfl ?_
      refine tq_s_iload (i := 4) (by decide +kernel) rfl ?_
      refine tq_s_iadd (by decide +kernel) ?_
      refine tq_s_aload_n (kk := 1) (by decide +kernel) rfl ?_
      refine tq_s_alen (by decide +kernel) sh_39 (by decide) ?_
      refine tq_icmp_ge (off := 40) (tgt := 72) (by decide +kernel) (by decide +kernel) (fun hc => ?_) (fun hc => ?_)
      · replace h := h.1 hc
        exact tq_ret_v (st := []) (by decide +kernel) rfl h
      · replace h := h.2 hc
        refine tq_s_aload_n (kk := 0) (by decide +kernel) rfl ?_
        refine fg_0_9_46 rfl (by decide +kernel) ?_
        refine tq_s_iload (i := 4) (by decide +kernel) rfl ?_
        refine tq_s_aload_n (kk := 1) (by decide +kernel) rfl ?_
        refine tq_s_iload_n (kk := 2) (by decide +kernel) rfl ?_
        refine tq_s_iload (i := 4) (by decide +kernel) rfl ?_
        refine tq_s_iadd (by decide +kernel) ?_
        refine tq_s_iald (by decide +kernel) sh_39 h.1 ?_
        replace h := h.2
        refine tq_g_iast (by decide +kernel) sh_47 h.1 (fun z101 ez101 => ?_)
        replace h := h.2 z101 ez101
        refine tq_s_aload_n (kk := 0) (by decide +kernel) rfl ?_
        refine fg_0_9_46 rfl (by decide +kernel) ?_
        refine tq_s_iload (i := 4) (by decide +kernel) rfl ?_
        refine tq_s_iald (by decide +kernel) sh_47 h.1 ?_
        replace h := h.2
        refine tq_if_eq (off := 11) (tgt := 66) (by decide +kernel) (by decide +kernel) (fun hc => ?_) (fun hc => ?_)
        · replace h := h.1 hc
          exact ac_X0_putLimbs_66 hB13 h
        · replace h := h.2 hc
          refine tq_s_aload_n (kk := 0) (by decide +kernel) rfl ?_
          refine tq_s_iload (i := 4) (by decide +kernel) rfl ?_
          refine tq_k_ic (n := 1) (v := (1 : Int32)) (by decide +kernel) kc_1 ?_
          refine tq_s_iadd (by decide +kernel) ?_
          refine fp_0_13_46 rfl (by decide +kernel) (fun z102 ez102 => ?_)
          replace h := h z102 ez102
          exact ac_X0_putLimbs_66 hB13 h
theorem ac_X0_putLimbs_13 {K : Nat × (Nat → Int32)} {x : Nat} {Q : tq_O → tq_S → Prop} {a2 : Int32} {a3 : Int32} {a4 : Int32} {z : tq_S} (h : wc_X0_putLimbs_13 Q a2 a3 a4 z) : tq_T K 0 x mm_X0_putLimbs 13 [.ref 46, .ref 39, .int a2, .int a3, .int a4] [] z Q :=
  tq_lp_T (σ := Int32 × tq_S) (s := (a4, z)) (G := fun s => tq_T K 0 x mm_X0_putLimbs 13 [.ref 46, .ref 39, .int a2, .int a3, .int s.1] [] s.2 Q) (fun B hB s h => ab_X0_putLimbs_13 (fun b4 z h => hB (b4, z) h) h) h
def wm_X0_putLimbs (a2 : Int32) (a3 : Int32) (z : tq_S) (Q : tq_O → tq_S → Prop) : Prop := ∀ z1 : tq_S, z1 = tq_sfi z 2946 (0 : Int32) → ∀ z2 : tq_S, z2 = tq_sfi z1 2945 (0 : Int32) → wc_X0_putLimbs_13 Q a2 a3 (0 : Int32) z2
theorem am_X0_putLimbs {K : Nat × (Nat → Int32)} {x : Nat} {z : tq_S} {Q : tq_O → tq_S → Prop} {a2 : Int32} {a3 : Int32} (h : wm_X0_putLimbs a2 a3 z Q) : tq_M K 0 x mm_X0_putLimbs [.ref 46, .ref 39, .int a2, .int a3] z Q := by
  unfold wm_X0_putLimbs at h
  refine tq_enter (L := [.ref 46, .ref 39, .int a2, .int a3, .null]) mf_X0_putLimbs.1 rfl rfl (Nat.le_of_ble_eq_true rfl) ?_
  refine tq_s_aload_n (kk := 0) (by decide +kernel) rfl ?_
  refine tq_k_ic (n := 0) (v := (0 : Int32)) (by decide +kernel) kc_0 ?_
  refine fp_0_17_46 rfl (by decide +kernel) ⟨by decide +kernel, by decide +kernel⟩ (fun z1 ez1 => ?_)
  replace h := h z1 ez1
  refine tq_s_aload_n (kk := 0) (by decide +kernel) rfl ?_
  refine tq_k_ic (n := 0) (v := (0 : Int32)) (by decide +kernel) kc_0 ?_
  refine fp_0_13_46 rfl (by decide +kernel) (fun z2 ez2 => ?_)
  replace h := h z2 ez2
  refine tq_k_ic (n := 0) (v := (0 : Int32)) (by decide +kernel) kc_0 ?_
  refine tq_s_istore (i := 4) (L9 := [.ref 46, .ref 39, .int a2, .int a3, .int (0 : Int32)]) (by decide +kernel) (by decide) rfl ?_
  exact ac_X0_putLimbs_13 h
def wc_X6_byRule_45 (B9 : Int32 → tq_S → Prop) (Q : tq_O → tq_S → Prop) (a1 : Int32) (a2 : Int32) (a4 : Int32) (a5 : Int32) (z : tq_S) : Prop := ∀ v101 : Int32, v101 = a5 + (1 : Int32) → B9 v101 z
theorem ac_X6_byRule_45 {K : Nat × (Nat → Int32)} {x : Nat} {Q : tq_O → tq_S → Prop} {B9 : Int32 → tq_S → Prop} {a1 : Int32} {a2 : Int32} {a4 : Int32} {a5 : Int32} {z : tq_S} (hB9 : ∀ (b5 : Int32) (z : tq_S), B9 b5 z → tq_T K 3 x mm_X6_byRule 9 [.ref 38, .int a1, .int a2, .ref 46, .int a4, .int b5] [] z Q) (h : wc_X6_byRule_45 B9 Q a1 a2 a4 a5 z) : tq_T K 3 x mm_X6_byRule 45 [.ref 38, .int a1, .int a2, .ref 46, .int a4, .int a5] [] z Q := by
  unfold wc_X6_byRule_45 at h
  refine tq_g_iinc (i := 5) (fun v101 => [.ref 38, .int a1, .int a2, .ref 46, .int a4, .int v101]) (by decide +kernel) rfl (1 : Int32) kc_1 (fun _ => rfl) (fun v101 ev101 => ?_)
  replace h := h v101 ev101
  refine tq_s_goto (off := -39) (tgt := 9) (by decide +kernel) (by decide +kernel) ?_
  exact hB9 _ _ h
def wc_X6_byRule_51 (Q : tq_O → tq_S → Prop) (a2 : Int32) (z : tq_S) : Prop := wm_X0_putLimbs ((a2 - a2 / (9 : Int32) * (9 : Int32)) * (26 : Int32)) (26 : Int32) z (tq_wv fun z101 => Q (.inl none) z101)
theorem ac_X6_byRule_51 {K : Nat × (Nat → Int32)} {x : Nat} {Q : tq_O → tq_S → Prop} {a2 : Int32} {z : tq_S} (h : wc_X6_byRule_51 Q a2 z) : tq_T K 3 x mm_X6_byRule 51 [.ref 38, .null, .int a2, .ref 46, .null, .null] [] z Q := by
  unfold wc_X6_byRule_51 at h
  refine tq_s_aload_n (kk := 3) (by decide +kernel) rfl ?_
  refine tq_s_aload_n (kk := 0) (by decide +kernel) rfl ?_
  refine fg_6_9_38 rfl (by decide +kernel) ?_
  refine tq_s_iload_n (kk := 2) (by decide +kernel) rfl ?_
  refine tq_k_bi (n := 9) (v := (9 : Int32)) (by decide +kernel) kb_9 ?_
  refine tq_s_irem (by decide +kernel) (by decide +kernel) ?_
  refine tq_k_bi (n := 26) (v := (26 : Int32)) (by decide +kernel) kb_26 ?_
  refine tq_s_imul (by decide +kernel) ?_
  refine tq_k_bi (n := 26) (v := (26 : Int32)) (by decide +kernel) kb_26 ?_
  refine tq_callVN (as := [.ref 39, .int ((a2 - a2 / (9 : Int32) * (9 : Int32)) * (26 : Int32)), .int (26 : Int32)]) (st := []) (d1 := 0) (x1 := 0) (x2 := x) (by decide +kernel) ln_6_42 mf_X0_putLimbs rfl sh_46 rfl (by decide) np_X0_putLimbs rfl (Nat.le_of_ble_eq_true rfl) (by decide) (Nat.zero_add _).symm (tq_M_mono (am_X0_putLimbs h) ?_)
  refine tq_wv_e (fun z101 h => ?_)
  exact tq_ret_v (st := []) (by decide +kernel) rfl h
def wb_X6_byRule_9 (B9 : Int32 → tq_S → Prop) (Q : tq_O → tq_S → Prop) (a1 : Int32) (a2 : Int32) (a4 : Int32) (a5 : Int32) (z : tq_S) : Prop := ((a2 < a5 → wc_X6_byRule_51 Q a2 z) ∧ (¬ a2 < a5 → ((a4 ≤ a5 → wm_X6_addTerms a1 a5 z (tq_wv fun z101 => wc_X6_byRule_45 B9 Q a1 a2 a4 a5 z101)) ∧ (¬ a4 ≤ a5 → wm_X6_byFront a1 a5 z (tq_wl fun r103 z102 => wm_X6_putTerm a5 r103 z102 (tq_wv fun z104 => wc_X6_byRule_45 B9 Q a1 a2 a4 a5 z104))))))
def wc_X6_byRule_9 (Q : tq_O → tq_S → Prop) (a1 : Int32) (a2 : Int32) (a4 : Int32) (a5 : Int32) (z : tq_S) : Prop := tq_lp (σ := Int32 × tq_S) (fun B s => wb_X6_byRule_9 (fun b5 z => B (b5, z)) Q a1 a2 a4 s.1 s.2) (a5, z)
theorem ab_X6_byRule_9 {K : Nat × (Nat → Int32)} {x : Nat} {Q : tq_O → tq_S → Prop} {B9 : Int32 → tq_S → Prop} {a1 : Int32} {a2 : Int32} {a4 : Int32} {a5 : Int32} {z : tq_S} (hB9 : ∀ (b5 : Int32) (z : tq_S), B9 b5 z → tq_T K 3 x mm_X6_byRule 9 [.ref 38, .int a1, .int a2, .ref 46, .int a4, .int b5] [] z Q) (h : wb_X6_byRule_9 B9 Q a1 a2 a4 a5 z) : tq_T K 3 x mm_X6_byRule 9 [.ref 38, .int a1, .int a2, .ref 46, .int a4, .int a5] [] z Q := by
  unfold wb_X6_byRule_9 at h
  refine tq_s_iload (i := 5) (by decide +kernel) rfl ?_
  refine tq_s_iload_n (kk := 2) (by decide +kernel) rfl ?_
  refine tq_icmp_gt (off := 39) (tgt := 51) (by decide +kernel) (by decide +kernel) (fun hc => ?_) (fun hc => ?_)
  · replace h := h.1 hc
    exact tq_to (tq_lk1 (tq_ld1 (tq_lk1 (tq_lk1 (tq_ld1 (tq_ld1 tq_l0)))))) (ac_X6_byRule_51 h)
  · replace h := h.2 hc
    refine tq_s_iload (i := 5) (by decide +kernel) rfl ?_
    refine tq_s_iload (i := 4) (by decide +kernel) rfl ?_
    refine tq_icmp_ge (off := 19) (tgt := 38) (by decide +kernel) (by decide +kernel) (fun hc => ?_) (fun hc => ?_)
    · replace h := h.1 hc
      refine tq_s_aload_n (kk := 0) (by decide +kernel) rfl ?_
      refine tq_s_iload_n (kk := 1) (by decide +kernel) rfl ?_
      refine tq_s_iload (i := 5) (by decide +kernel) rfl ?_
      refine tq_callV (as := [.int a1, .int a5]) (st := []) (d1 := 1) (x1 := 0) (x2 := x) (by decide +kernel) ln_6_38 mf_X6_addTerms rfl sh_38 rfl (by decide) np_X6_addTerms rfl (Nat.le_of_ble_eq_true rfl) (by decide) (Nat.zero_add _).symm (tq_M_mono (am_X6_addTerms h) ?_)
      refine tq_wv_e (fun z101 h => ?_)
      exact ac_X6_byRule_45 hB9 h
    · replace h := h.2 hc
      refine tq_s_aload_n (kk := 0) (by decide +kernel) rfl ?_
      refine tq_s_iload (i := 5) (by decide +kernel) rfl ?_
      refine tq_s_aload_n (kk := 0) (by decide +kernel) rfl ?_
      refine tq_s_iload_n (kk := 1) (by decide +kernel) rfl ?_
      refine tq_s_iload (i := 5) (by decide +kernel) rfl ?_
      refine tq_callV (as := [.int a1, .int a5]) (st := [.int a5, .ref 38]) (d1 := 2) (x1 := 0) (x2 := x) (by decide +kernel) ln_6_30 mf_X6_byFront rfl sh_38 rfl (by decide) np_X6_byFront rfl (Nat.le_of_ble_eq_true rfl) (by decide) (Nat.zero_add _).symm (tq_M_mono (am_X6_byFront h) ?_)
      refine tq_wl_e (fun r103 z102 h => ?_)
      refine tq_callV (as := [.int a5, .long r103]) (st := []) (d1 := 0) (x1 := 0) (x2 := x) (by decide +kernel) ln_6_34 mf_X6_putTerm rfl sh_38 rfl (by decide) np_X6_putTerm rfl (Nat.le_of_ble_eq_true rfl) (by decide) (Nat.zero_add _).symm (tq_M_mono (am_X6_putTerm h) ?_)
      refine tq_wv_e (fun z104 h => ?_)
      refine tq_s_goto (off := 10) (tgt := 45) (by decide +kernel) (by decide +kernel) ?_
      exact ac_X6_byRule_45 hB9 h
theorem ac_X6_byRule_9 {K : Nat × (Nat → Int32)} {x : Nat} {Q : tq_O → tq_S → Prop} {a1 : Int32} {a2 : Int32} {a4 : Int32} {a5 : Int32} {z : tq_S} (h : wc_X6_byRule_9 Q a1 a2 a4 a5 z) : tq_T K 3 x mm_X6_byRule 9 [.ref 38, .int a1, .int a2, .ref 46, .int a4, .int a5] [] z Q :=
  tq_lp_T (σ := Int32 × tq_S) (s := (a5, z)) (G := fun s => tq_T K 3 x mm_X6_byRule 9 [.ref 38, .int a1, .int a2, .ref 46, .int a4, .int s.1] [] s.2 Q) (fun B hB s h => ab_X6_byRule_9 (fun b5 z h => hB (b5, z) h) h) h
def wm_X6_byRule (a1 : Int32) (a2 : Int32) (z : tq_S) (Q : tq_O → tq_S → Prop) : Prop := wm_X6_orderOf a1 z (tq_wi fun r2 z1 => wc_X6_byRule_9 Q a1 a2 r2 (0 : Int32) z1)
theorem am_X6_byRule {K : Nat × (Nat → Int32)} {x : Nat} {z : tq_S} {Q : tq_O → tq_S → Prop} {a1 : Int32} {a2 : Int32} (h : wm_X6_byRule a1 a2 z Q) : tq_M K 3 x mm_X6_byRule [.ref 38, .int a1, .int a2, .ref 46] z Q := by
  unfold wm_X6_byRule at h
  refine tq_enter (L := [.ref 38, .int a1, .int a2, .ref 46, .null, .null]) mf_X6_byRule.1 rfl rfl (Nat.le_of_ble_eq_true rfl) ?_
  refine tq_s_iload_n (kk := 1) (by decide +kernel) rfl ?_
  refine tq_callS (as := [.int a1]) (st := []) (d1 := 0) (x1 := 0) (x2 := x) (by decide +kernel) ln_6_26 mf_X6_orderOf rfl (by decide) np_X6_orderOf rfl (Nat.le_of_ble_eq_true rfl) (by decide) (Nat.zero_add _).symm (tq_M_mono (am_X6_orderOf h) ?_)
  refine tq_wi_e (fun r2 z1 h => ?_)
  refine tq_s_istore (i := 4) (L9 := [.ref 38, .int a1, .int a2, .ref 46, .int r2, .null]) (by decide +kernel) (by decide) rfl ?_
  refine tq_k_ic (n := 0) (v := (0 : Int32)) (by decide +kernel) kc_0 ?_
  refine tq_s_istore (i := 5) (L9 := [.ref 38, .int a1, .int a2, .ref 46, .int r2, .int (0 : Int32)]) (by decide +kernel) (by decide) rfl ?_
  exact ac_X6_byRule_9 h
def wc_X11_strip_21 (Q : tq_O → tq_S → Prop)  (z : tq_S) : Prop := Q (.inr 1) z
theorem ac_X11_strip_21 {K : Nat × (Nat → Int32)} {Q : tq_O → tq_S → Prop}  {z : tq_S} (h : wc_X11_strip_21 Q z) : tq_T K 4 1 mm_X11_strip 21 [.null, .null, .null] [] z Q := by
  unfold wc_X11_strip_21 at h
  exact tq_throwSW th_11_105_388 rfl (by decide +kernel) (by decide +kernel) (by decide +kernel) (by decide +kernel) (by decide +kernel) (Nat.le_of_ble_eq_true rfl) rfl (Nat.le_refl 1) h
def wm_X11_strip (a1 : Int32) (a2 : Int32) (z : tq_S) (Q : tq_O → tq_S → Prop) : Prop := wm_X11_isFrom (1 : Int32) a1 (6 : Int32) z (tq_wi fun r2 z1 => ((r2 = 0 → wc_X11_strip_21 Q z1) ∧ (¬ r2 = 0 → wm_X11_isFrom (0 : Int32) a2 (300 : Int32) z1 (tq_wi fun r4 z3 => ((¬ r4 = 0 → wm_X6_byRule a1 a2 z3 (tq_wv fun z5 => wm_X11_sayAnswer z5 (tq_wi fun r7 z6 => Q (.inl (some (.int r7))) z6))) ∧ (r4 = 0 → wc_X11_strip_21 Q z3))))))
theorem am_X11_strip {K : Nat × (Nat → Int32)} {z : tq_S} {Q : tq_O → tq_S → Prop} {a1 : Int32} {a2 : Int32} (h : wm_X11_strip a1 a2 z Q) : tq_M K 4 1 mm_X11_strip [.ref 0, .int a1, .int a2] z Q := by
  unfold wm_X11_strip at h
  refine tq_enter (L := [.ref 0, .int a1, .int a2]) mf_X11_strip.1 rfl rfl (Nat.le_of_ble_eq_true rfl) ?_
  refine tq_k_ic (n := 1) (v := (1 : Int32)) (by decide +kernel) kc_1 ?_
  refine tq_s_iload_n (kk := 1) (by decide +kernel) rfl ?_
  refine tq_k_bi (n := 6) (v := (6 : Int32)) (by decide +kernel) kb_6 ?_
  refine tq_callS (as := [.int (1 : Int32), .int a1, .int (6 : Int32)]) (st := []) (d1 := 0) (x1 := 0) (x2 := 1) (by decide +kernel) ln_11_101 mf_X11_isFrom rfl (by decide) np_X11_isFrom rfl (Nat.le_of_ble_eq_true rfl) (by decide) (Nat.zero_add _).symm (tq_M_mono (am_X11_isFrom h) ?_)
  refine tq_wi_e (fun r2 z1 h => ?_)
  refine tq_if_eq (off := 14) (tgt := 21) (by decide +kernel) (by decide +kernel) (fun hc => ?_) (fun hc => ?_)
  · replace h := h.1 hc
    exact tq_to (tq_ld1 (tq_ld1 (tq_ld1 tq_l0))) (ac_X11_strip_21 h)
  · replace h := h.2 hc
    refine tq_k_ic (n := 0) (v := (0 : Int32)) (by decide +kernel) kc_0 ?_
    refine tq_s_iload_n (kk := 2) (by decide +kernel) rfl ?_
    refine tq_k_si (n := 300) (v := (300 : Int32)) (by decide +kernel) ks_300 ?_
    refine tq_callS (as := [.int (0 : Int32), .int a2, .int (300 : Int32)]) (st := []) (d1 := 0) (x1 := 0) (x2 := 1) (by decide +kernel) ln_11_101 mf_X11_isFrom rfl (by decide) np_X11_isFrom rfl (Nat.le_of_ble_eq_true rfl) (by decide) (Nat.zero_add _).symm (tq_M_mono (am_X11_isFrom h) ?_)
    refine tq_wi_e (fun r4 z3 h => ?_)
    refine tq_if_ne (off := 14) (tgt := 32) (by decide +kernel) (by decide +kernel) (fun hc => ?_) (fun hc => ?_)
    · replace h := h.1 hc
      refine tq_s_aload_n (kk := 0) (by decide +kernel) rfl ?_
      refine fg_11_72_0 rfl (by decide +kernel) ?_
      refine tq_s_iload_n (kk := 1) (by decide +kernel) rfl ?_
      refine tq_s_iload_n (kk := 2) (by decide +kernel) rfl ?_
      refine tq_s_aload_n (kk := 0) (by decide +kernel) rfl ?_
      refine fg_11_86_0 rfl (by decide +kernel) ?_
      refine tq_callVN (as := [.int a1, .int a2, .ref 46]) (st := []) (d1 := 3) (x1 := 0) (x2 := 1) (by decide +kernel) ln_11_390 mf_X6_byRule rfl sh_38 rfl (by decide) np_X6_byRule rfl (Nat.le_of_ble_eq_true rfl) (by decide) (Nat.zero_add _).symm (tq_M_mono (am_X6_byRule h) ?_)
      refine tq_wv_e (fun z5 h => ?_)
      refine tq_s_aload_n (kk := 0) (by decide +kernel) rfl ?_
      refine tq_callV (as := []) (st := []) (d1 := 2) (x1 := 0) (x2 := 1) (by decide +kernel) ln_11_394 mf_X11_sayAnswer rfl sh_0 rfl (by decide) np_X11_sayAnswer rfl (Nat.le_of_ble_eq_true rfl) (by decide) (Nat.zero_add _).symm (tq_M_mono (am_X11_sayAnswer h) ?_)
      refine tq_wi_e (fun r7 z6 h => ?_)
      exact tq_ret_i (st := []) (by decide +kernel) rfl h
    · replace h := h.2 hc
      exact tq_to (tq_ld1 (tq_ld1 (tq_ld1 tq_l0))) (ac_X11_strip_21 h)
def wm_X11_order (a1 : Int32) (z : tq_S) (Q : tq_O → tq_S → Prop) : Prop := wm_X11_isFrom (1 : Int32) a1 (6 : Int32) z (tq_wi fun r2 z1 => ((¬ r2 = 0 → wm_X6_orderOf a1 z1 (tq_wi fun r4 z3 => Q (.inl (some (.int r4))) z3)) ∧ (r2 = 0 → Q (.inr 1) z1)))
theorem am_X11_order {K : Nat × (Nat → Int32)} {z : tq_S} {Q : tq_O → tq_S → Prop} {a1 : Int32} (h : wm_X11_order a1 z Q) : tq_M K 1 1 mm_X11_order [.ref 0, .int a1] z Q := by
  unfold wm_X11_order at h
  refine tq_enter (L := [.ref 0, .int a1]) mf_X11_order.1 rfl rfl (Nat.le_of_ble_eq_true rfl) ?_
  refine tq_k_ic (n := 1) (v := (1 : Int32)) (by decide +kernel) kc_1 ?_
  refine tq_s_iload_n (kk := 1) (by decide +kernel) rfl ?_
  refine tq_k_bi (n := 6) (v := (6 : Int32)) (by decide +kernel) kb_6 ?_
  refine tq_callS (as := [.int (1 : Int32), .int a1, .int (6 : Int32)]) (st := []) (d1 := 0) (x1 := 0) (x2 := 1) (by decide +kernel) ln_11_101 mf_X11_isFrom rfl (by decide) np_X11_isFrom rfl (Nat.le_of_ble_eq_true rfl) (by decide) (Nat.zero_add _).symm (tq_M_mono (am_X11_isFrom h) ?_)
  refine tq_wi_e (fun r2 z1 h => ?_)
  refine tq_if_ne (off := 14) (tgt := 21) (by decide +kernel) (by decide +kernel) (fun hc => ?_) (fun hc => ?_)
  · replace h := h.1 hc
    refine tq_s_iload_n (kk := 1) (by decide +kernel) rfl ?_
    refine tq_callSN (as := [.int a1]) (st := []) (d1 := 0) (x1 := 0) (x2 := 1) (by decide +kernel) ln_11_399 mf_X6_orderOf rfl (by decide) np_X6_orderOf rfl (Nat.le_of_ble_eq_true rfl) (by decide) (Nat.zero_add _).symm (tq_M_mono (am_X6_orderOf h) ?_)
    refine tq_wi_e (fun r4 z3 h => ?_)
    exact tq_ret_i (st := []) (by decide +kernel) rfl h
  · replace h := h.2 hc
    exact tq_throwSW th_11_105_397 rfl (by decide +kernel) (by decide +kernel) (by decide +kernel) (by decide +kernel) (by decide +kernel) (Nat.le_of_ble_eq_true rfl) rfl (Nat.le_refl 1) h
def wm_X11_rule (a1 : Int32) (a2 : Int32) (z : tq_S) (Q : tq_O → tq_S → Prop) : Prop := wm_X11_isFrom (1 : Int32) a1 (6 : Int32) z (tq_wi fun r2 z1 => ((¬ r2 = 0 → wm_X6_orderOf a1 z1 (tq_wi fun r4 z3 => wm_X11_isFrom (1 : Int32) a2 r4 z3 (tq_wi fun r6 z5 => ((¬ r6 = 0 → wm_X6_factor a1 a2 z5 (tq_wi fun r8 z7 => wm_X11_say (Int32.toInt64 r8) z7 (tq_wi fun r10 z9 => Q (.inl (some (.int r10))) z9))) ∧ (r6 = 0 → Q (.inr 3) z5))))) ∧ (r2 = 0 → Q (.inr 1) z1)))
theorem am_X11_rule {K : Nat × (Nat → Int32)} {z : tq_S} {Q : tq_O → tq_S → Prop} {a1 : Int32} {a2 : Int32} (h : wm_X11_rule a1 a2 z Q) : tq_M K 4 1 mm_X11_rule [.ref 0, .int a1, .int a2] z Q := by
  unfold wm_X11_rule at h
  refine tq_enter (L := [.ref 0, .int a1, .int a2]) mf_X11_rule.1 rfl rfl (Nat.le_of_ble_eq_true rfl) ?_
  refine tq_k_ic (n := 1) (v := (1 : Int32)) (by decide +kernel) kc_1 ?_
  refine tq_s_iload_n (kk := 1) (by decide +kernel) rfl ?_
  refine tq_k_bi (n := 6) (v := (6 : Int32)) (by decide +kernel) kb_6 ?_
  refine tq_callS (as := [.int (1 : Int32), .int a1, .int (6 : Int32)]) (st := []) (d1 := 0) (x1 := 0) (x2 := 1) (by decide +kernel) ln_11_101 mf_X11_isFrom rfl (by decide) np_X11_isFrom rfl (Nat.le_of_ble_eq_true rfl) (by decide) (Nat.zero_add _).symm (tq_M_mono (am_X11_isFrom h) ?_)
  refine tq_wi_e (fun r2 z1 h => ?_)
  refine tq_if_ne (off := 14) (tgt := 21) (by decide +kernel) (by decide +kernel) (fun hc => ?_) (fun hc => ?_)
  · replace h := h.1 hc
    refine tq_k_ic (n := 1) (v := (1 : Int32)) (by decide +kernel) kc_1 ?_
    refine tq_s_iload_n (kk := 2) (by decide +kernel) rfl ?_
    refine tq_s_iload_n (kk := 1) (by decide +kernel) rfl ?_
    refine tq_callSN (as := [.int a1]) (st := [.int a2, .int (1 : Int32)]) (d1 := 0) (x1 := 0) (x2 := 1) (by decide +kernel) ln_11_399 mf_X6_orderOf rfl (by decide) np_X6_orderOf rfl (Nat.le_of_ble_eq_true rfl) (by decide) (Nat.zero_add _).symm (tq_M_mono (am_X6_orderOf h) ?_)
    refine tq_wi_e (fun r4 z3 h => ?_)
    refine tq_callS (as := [.int (1 : Int32), .int a2, .int r4]) (st := []) (d1 := 0) (x1 := 0) (x2 := 1) (by decide +kernel) ln_11_101 mf_X11_isFrom rfl (by decide) np_X11_isFrom rfl (Nat.le_of_ble_eq_true rfl) (by decide) (Nat.zero_add _).symm (tq_M_mono (am_X11_isFrom h) ?_)
    refine tq_wi_e (fun r6 z5 h => ?_)
    refine tq_if_ne (off := 14) (tgt := 44) (by decide +kernel) (by decide +kernel) (fun hc => ?_) (fun hc => ?_)
    · replace h := h.1 hc
      refine tq_s_aload_n (kk := 0) (by decide +kernel) rfl ?_
      refine tq_s_iload_n (kk := 1) (by decide +kernel) rfl ?_
      refine tq_s_iload_n (kk := 2) (by decide +kernel) rfl ?_
      refine tq_callSN (as := [.int a1, .int a2]) (st := [.ref 0]) (d1 := 0) (x1 := 0) (x2 := 1) (by decide +kernel) ln_11_404 mf_X6_factor rfl (by decide) np_X6_factor rfl (Nat.le_of_ble_eq_true rfl) (by decide) (Nat.zero_add _).symm (tq_M_mono (am_X6_factor h) ?_)
      refine tq_wi_e (fun r8 z7 h => ?_)
      refine tq_s_i2l (by decide +kernel) ?_
      refine tq_callV (as := [.long (Int32.toInt64 r8)]) (st := []) (d1 := 3) (x1 := 0) (x2 := 1) (by decide +kernel) ln_11_196 mf_X11_say rfl sh_0 rfl (by decide) np_X11_say rfl (Nat.le_of_ble_eq_true rfl) (by decide) (Nat.zero_add _).symm (tq_M_mono (am_X11_say h) ?_)
      refine tq_wi_e (fun r10 z9 h => ?_)
      exact tq_ret_i (st := []) (by decide +kernel) rfl h
    · replace h := h.2 hc
      exact tq_throwSW th_11_141_402 rfl (by decide +kernel) (by decide +kernel) (by decide +kernel) (by decide +kernel) (by decide +kernel) (Nat.le_of_ble_eq_true rfl) rfl (Nat.le_refl 1) h
  · replace h := h.2 hc
    exact tq_throwSW th_11_105_397 rfl (by decide +kernel) (by decide +kernel) (by decide +kernel) (by decide +kernel) (by decide +kernel) (Nat.le_of_ble_eq_true rfl) rfl (Nat.le_refl 1) h
def wm_X11_areSides (a0 : Int32) (a1 : Int32) (a2 : Int32) (z : tq_S) (Q : tq_O → tq_S → Prop) : Prop := wm_X11_isFrom (1 : Int32) a0 (8 : Int32) z (tq_wi fun r2 z1 => ((r2 = 0 → Q (.inl (some (.int (0 : Int32)))) z1) ∧ (¬ r2 = 0 → wm_X11_isFrom (1 : Int32) a1 (8 : Int32) z1 (tq_wi fun r4 z3 => ((r4 = 0 → Q (.inl (some (.int (0 : Int32)))) z3) ∧ (¬ r4 = 0 → wm_X11_isFrom (1 : Int32) a2 (8 : Int32) z3 (tq_wi fun r6 z5 => ((r6 = 0 → Q (.inl (some (.int (0 : Int32)))) z5) ∧ (¬ r6 = 0 → Q (.inl (some (.int (1 : Int32)))) z5)))))))))
theorem am_X11_areSides {K : Nat × (Nat → Int32)} {x : Nat} {z : tq_S} {Q : tq_O → tq_S → Prop} {a0 : Int32} {a1 : Int32} {a2 : Int32} (h : wm_X11_areSides a0 a1 a2 z Q) : tq_M K 1 x mm_X11_areSides [.int a0, .int a1, .int a2] z Q := by
  unfold wm_X11_areSides at h
  refine tq_enter (L := [.int a0, .int a1, .int a2]) mf_X11_areSides.1 rfl rfl (Nat.le_of_ble_eq_true rfl) ?_
  refine tq_k_ic (n := 1) (v := (1 : Int32)) (by decide +kernel) kc_1 ?_
  refine tq_s_iload_n (kk := 0) (by decide +kernel) rfl ?_
  refine tq_k_bi (n := 8) (v := (8 : Int32)) (by decide +kernel) kb_8 ?_
  refine tq_callS (as := [.int (1 : Int32), .int a0, .int (8 : Int32)]) (st := []) (d1 := 0) (x1 := 0) (x2 := x) (by decide +kernel) ln_11_101 mf_X11_isFrom rfl (by decide) np_X11_isFrom rfl (Nat.le_of_ble_eq_true rfl) (by decide) (Nat.zero_add _).symm (tq_M_mono (am_X11_isFrom h) ?_)
  refine tq_wi_e (fun r2 z1 h => ?_)
  refine tq_if_eq (off := 27) (tgt := 34) (by decide +kernel) (by decide +kernel) (fun hc => ?_) (fun hc => ?_)
  · replace h := h.1 hc
    refine tq_k_ic (n := 0) (v := (0 : Int32)) (by decide +kernel) kc_0 ?_
    exact tq_ret_z (st := []) (ty := .boolean) (by decide +kernel) (by decide +kernel) rfl h
  · replace h := h.2 hc
    refine tq_k_ic (n := 1) (v := (1 : Int32)) (by decide +kernel) kc_1 ?_
    refine tq_s_iload_n (kk := 1) (by decide +kernel) rfl ?_
    refine tq_k_bi (n := 8) (v := (8 : Int32)) (by decide +kernel) kb_8 ?_
    refine tq_callS (as := [.int (1 : Int32), .int a1, .int (8 : Int32)]) (st := []) (d1 := 0) (x1 := 0) (x2 := x) (by decide +kernel) ln_11_101 mf_X11_isFrom rfl (by decide) np_X11_isFrom rfl (Nat.le_of_ble_eq_true rfl) (by decide) (Nat.zero_add _).symm (tq_M_mono (am_X11_isFrom h) ?_)
    refine tq_wi_e (fun r4 z3 h => ?_)
    refine tq_if_eq (off := 17) (tgt := 34) (by decide +kernel) (by decide +kernel) (fun hc => ?_) (fun hc => ?_)
    · replace h := h.1 hc
      refine tq_k_ic (n := 0) (v := (0 : Int32)) (by decide +kernel) kc_0 ?_
      exact tq_ret_z (st := []) (ty := .boolean) (by decide +kernel) (by decide +kernel) rfl h
    · replace h := h.2 hc
      refine tq_k_ic (n := 1) (v := (1 : Int32)) (by decide +kernel) kc_1 ?_
      refine tq_s_iload_n (kk := 2) (by decide +kernel) rfl ?_
      refine tq_k_bi (n := 8) (v := (8 : Int32)) (by decide +kernel) kb_8 ?_
      refine tq_callS (as := [.int (1 : Int32), .int a2, .int (8 : Int32)]) (st := []) (d1 := 0) (x1 := 0) (x2 := x) (by decide +kernel) ln_11_101 mf_X11_isFrom rfl (by decide) np_X11_isFrom rfl (Nat.le_of_ble_eq_true rfl) (by decide) (Nat.zero_add _).symm (tq_M_mono (am_X11_isFrom h) ?_)
      refine tq_wi_e (fun r6 z5 h => ?_)
      refine tq_if_eq (off := 7) (tgt := 34) (by decide +kernel) (by decide +kernel) (fun hc => ?_) (fun hc => ?_)
      · replace h := h.1 hc
        refine tq_k_ic (n := 0) (v := (0 : Int32)) (by decide +kernel) kc_0 ?_
        exact tq_ret_z (st := []) (ty := .boolean) (by decide +kernel) (by decide +kernel) rfl h
      · replace h := h.2 hc
        refine tq_k_ic (n := 1) (v := (1 : Int32)) (by decide +kernel) kc_1 ?_
        refine tq_s_goto (off := 4) (tgt := 35) (by decide +kernel) (by decide +kernel) ?_
        exact tq_ret_z (st := []) (ty := .boolean) (by decide +kernel) (by decide +kernel) rfl h
def wb_X3_choose_16 (B16 : Int64 → Int32 → tq_S → Prop) (Q : tq_O → tq_S → Prop) (a0 : Int32) (a1 : Int32) (a2 : Int64) (a4 : Int32) (z : tq_S) : Prop := ((a1 ≤ a4 → Q (.inl (some (.long a2))) z) ∧ (¬ a1 ≤ a4 → (¬ (Int32.toInt64 (a4 + (1 : Int32))) = 0) ∧ ∀ v101 : Int64, v101 = ((a2 * (Int32.toInt64 (a0 - a4))) / (Int32.toInt64 (a4 + (1 : Int32)))) → ∀ v102 : Int32, v102 = a4 + (1 : Int32) → B16 v101 v102 z))
def wc_X3_choose_16 (Q : tq_O → tq_S → Prop) (a0 : Int32) (a1 : Int32) (a2 : Int64) (a4 : Int32) (z : tq_S) : Prop := tq_lp (σ := Int64 × Int32 × tq_S) (fun B s => wb_X3_choose_16 (fun b2 b4 z => B (b2, b4, z)) Q a0 a1 s.1 s.2.1 s.2.2) (a2, a4, z)
theorem ab_X3_choose_16 {K : Nat × (Nat → Int32)} {x : Nat} {Q : tq_O → tq_S → Prop} {B16 : Int64 → Int32 → tq_S → Prop} {a0 : Int32} {a1 : Int32} {a2 : Int64} {a4 : Int32} {z : tq_S} (hB16 : ∀ (b2 : Int64) (b4 : Int32) (z : tq_S), B16 b2 b4 z → tq_T K 0 x mm_X3_choose 16 [.int a0, .int a1, .long b2, .null, .int b4] [] z Q) (h : wb_X3_choose_16 B16 Q a0 a1 a2 a4 z) : tq_T K 0 x mm_X3_choose 16 [.int a0, .int a1, .long a2, .null, .int a4] [] z Q := by
  unfold wb_X3_choose_16 at h
  refine tq_s_iload (i := 4) (by decide +kernel) rfl ?_
  refine tq_s_iload_n (kk := 1) (by decide +kernel) rfl ?_
  refine tq_icmp_ge (off := 23) (tgt := 42) (by decide +kernel) (by decide +kernel) (fun hc => ?_) (fun hc => ?_)
  · replace h := h.1 hc
    refine tq_s_lload_n (kk := 2) (by decide +kernel) rfl ?_
    exact tq_ret_l (st := []) (by decide +kernel) rfl h
  · replace h := h.2 hc
    refine tq_s_lload_n (kk := 2) (by decide +kernel) rfl ?_
    refine tq_s_iload_n (kk := 0) (by decide +kernel) rfl ?_
    refine tq_s_iload (i := 4) (by decide +kernel) rfl ?_
    refine tq_s_isub (by decide +kernel) ?_
    refine tq_s_i2l (by decide +kernel) ?_
    refine tq_s_lmul (by decide +kernel) ?_
    refine tq_s_iload (i := 4) (by decide +kernel) rfl ?_
    refine tq_k_ic (n := 1) (v := (1 : Int32)) (by decide +kernel) kc_1 ?_
    refine tq_s_iadd (by decide +kernel) ?_
    refine tq_s_i2l (by decide +kernel) ?_
    refine tq_s_ldiv (by decide +kernel) h.1 ?_
    replace h := h.2
    refine tq_g_lstore_n (kk := 2) (fun v101 => [.int a0, .int a1, .long v101, .null, .int a4]) (by decide +kernel) (by decide) (fun _ => rfl) (fun v101 ev101 => ?_)
    replace h := h v101 ev101
    refine tq_g_iinc (i := 4) (fun v102 => [.int a0, .int a1, .long v101, .null, .int v102]) (by decide +kernel) rfl (1 : Int32) kc_1 (fun _ => rfl) (fun v102 ev102 => ?_)
    replace h := h v102 ev102
    refine tq_s_goto (off := -23) (tgt := 16) (by decide +kernel) (by decide +kernel) ?_
    exact hB16 _ _ _ h
theorem ac_X3_choose_16 {K : Nat × (Nat → Int32)} {x : Nat} {Q : tq_O → tq_S → Prop} {a0 : Int32} {a1 : Int32} {a2 : Int64} {a4 : Int32} {z : tq_S} (h : wc_X3_choose_16 Q a0 a1 a2 a4 z) : tq_T K 0 x mm_X3_choose 16 [.int a0, .int a1, .long a2, .null, .int a4] [] z Q :=
  tq_lp_T (σ := Int64 × Int32 × tq_S) (s := (a2, a4, z)) (G := fun s => tq_T K 0 x mm_X3_choose 16 [.int a0, .int a1, .long s.1, .null, .int s.2.1] [] s.2.2 Q) (fun B hB s h => ab_X3_choose_16 (fun b2 b4 z h => hB (b2, b4, z) h) h) h
def wm_X3_choose (a0 : Int32) (a1 : Int32) (z : tq_S) (Q : tq_O → tq_S → Prop) : Prop := ((a1 < 0 → Q (.inl (some (.long (0 : Int64)))) z) ∧ (¬ a1 < 0 → ((a1 ≤ a0 → wc_X3_choose_16 Q a0 a1 (1 : Int64) (0 : Int32) z) ∧ (¬ a1 ≤ a0 → Q (.inl (some (.long (0 : Int64)))) z))))
theorem am_X3_choose {K : Nat × (Nat → Int32)} {x : Nat} {z : tq_S} {Q : tq_O → tq_S → Prop} {a0 : Int32} {a1 : Int32} (h : wm_X3_choose a0 a1 z Q) : tq_M K 0 x mm_X3_choose [.int a0, .int a1] z Q := by
  unfold wm_X3_choose at h
  refine tq_enter (L := [.int a0, .int a1, .null, .null, .null]) mf_X3_choose.1 rfl rfl (Nat.le_of_ble_eq_true rfl) ?_
  refine tq_s_iload_n (kk := 1) (by decide +kernel) rfl ?_
  refine tq_if_lt (off := 8) (tgt := 9) (by decide +kernel) (by decide +kernel) (fun hc => ?_) (fun hc => ?_)
  · replace h := h.1 hc
    refine tq_k_lc (n := 0) (v := (0 : Int64)) (by decide +kernel) (by decide +kernel) ?_
    exact tq_ret_l (st := []) (by decide +kernel) rfl h
  · replace h := h.2 hc
    refine tq_s_iload_n (kk := 1) (by decide +kernel) rfl ?_
    refine tq_s_iload_n (kk := 0) (by decide +kernel) rfl ?_
    refine tq_icmp_le (off := 5) (tgt := 11) (by decide +kernel) (by decide +kernel) (fun hc => ?_) (fun hc => ?_)
    · replace h := h.1 hc
      refine tq_k_lc (n := 1) (v := (1 : Int64)) (by decide +kernel) (by decide +kernel) ?_
      refine tq_s_lstore_n (kk := 2) (L9 := [.int a0, .int a1, .long (1 : Int64), .null, .null]) (by decide +kernel) (by decide) rfl ?_
      refine tq_k_ic (n := 0) (v := (0 : Int32)) (by decide +kernel) kc_0 ?_
      refine tq_s_istore (i := 4) (L9 := [.int a0, .int a1, .long (1 : Int64), .null, .int (0 : Int32)]) (by decide +kernel) (by decide) rfl ?_
      exact ac_X3_choose_16 h
    · replace h := h.2 hc
      refine tq_k_lc (n := 0) (v := (0 : Int64)) (by decide +kernel) (by decide +kernel) ?_
      exact tq_ret_l (st := []) (by decide +kernel) rfl h
def wm_X3_thirdDigit  (z : tq_S) (Q : tq_O → tq_S → Prop) : Prop := wm_X3_secondDigit z (tq_wl fun r2 z1 => wm_J9_floorMod_f86c9 ((tq_al z1 18 (Int32.toNatClampNeg (2 : Int32))) - (tq_al z1 18 (Int32.toNatClampNeg (0 : Int32)))) (2147483587 : Int64) z1 (tq_wl fun r4 z3 => wm_X3_inverse (2147483647 : Int64) (2147483587 : Int64) z3 (tq_wl fun r6 z5 => ∀ v7 : Int64, v7 = ((r4 * r6) - (r4 * r6) / (2147483587 : Int64) * (2147483587 : Int64)) → wm_J9_floorMod_f86c9 (v7 - r2) (2147483587 : Int64) z5 (tq_wl fun r9 z8 => wm_X3_inverse (2147483629 : Int64) (2147483587 : Int64) z8 (tq_wl fun r11 z10 => Q (.inl (some (.long ((r9 * r11) - (r9 * r11) / (2147483587 : Int64) * (2147483587 : Int64))))) z10)))))
theorem am_X3_thirdDigit {K : Nat × (Nat → Int32)} {x : Nat} {z : tq_S} {Q : tq_O → tq_S → Prop}  (h : wm_X3_thirdDigit z Q) : tq_M K 3 x mm_X3_thirdDigit [.ref 16] z Q := by
  unfold wm_X3_thirdDigit at h
  refine tq_enter (L := [.ref 16, .null, .null, .null, .null]) mf_X3_thirdDigit.1 rfl rfl (Nat.le_of_ble_eq_true rfl) ?_
  refine tq_s_aload_n (kk := 0) (by decide +kernel) rfl ?_
  refine tq_callV (as := []) (st := []) (d1 := 2) (x1 := 0) (x2 := x) (by decide +kernel) ln_3_56 mf_X3_secondDigit rfl sh_16 rfl (by decide) np_X3_secondDigit rfl (Nat.le_of_ble_eq_true rfl) (by decide) (Nat.zero_add _).symm (tq_M_mono (am_X3_secondDigit h) ?_)
  refine tq_wl_e (fun r2 z1 h => ?_)
  refine tq_s_lstore_n (kk := 1) (L9 := [.ref 16, .long r2, .null, .null, .null]) (by decide +kernel) (by decide) rfl ?_
  refine tq_s_aload_n (kk := 0) (by decide +kernel) rfl ?_
  refine fg_3_13_16 rfl (by decide +kernel) ?_
  refine tq_k_ic (n := 2) (v := (2 : Int32)) (by decide +kernel) kc_2 ?_
  refine tq_s_lald (by decide +kernel) sh_18 vi_2_3 ?_
  refine tq_s_aload_n (kk := 0) (by decide +kernel) rfl ?_
  refine fg_3_13_16 rfl (by decide +kernel) ?_
  refine tq_k_ic (n := 0) (v := (0 : Int32)) (by decide +kernel) kc_0 ?_
  refine tq_s_lald (by decide +kernel) sh_18 vi_0_3 ?_
  refine tq_s_lsub (by decide +kernel) ?_
  refine tq_s_ldc2 (i := 20) (v := (2147483587 : Int64)) (by decide +kernel) (by decide +kernel) ?_
  refine tq_callS (as := [.long ((tq_al z1 18 (Int32.toNatClampNeg (2 : Int32))) - (tq_al z1 18 (Int32.toNatClampNeg (0 : Int32)))), .long (2147483587 : Int64)]) (st := []) (d1 := 0) (x1 := 0) (x2 := x) (by decide +kernel) ln_3_62 mf_J9_floorMod_f86c9 rfl (by decide) np_J9_floorMod_f86c9 rfl (Nat.le_of_ble_eq_true rfl) (by decide) (Nat.zero_add _).symm (tq_M_mono (am_J9_floorMod_f86c9 h) ?_)
  refine tq_wl_e (fun r4 z3 h => ?_)
  refine tq_s_ldc2 (i := 16) (v := (2147483647 : Int64)) (by decide +kernel) (by decide +kernel) ?_
  refine tq_s_ldc2 (i := 20) (v := (2147483587 : Int64)) (by decide +kernel) (by decide +kernel) ?_
  refine tq_callS (as := [.long (2147483647 : Int64), .long (2147483587 : Int64)]) (st := [.long r4]) (d1 := 1) (x1 := 0) (x2 := x) (by decide +kernel) ln_3_68 mf_X3_inverse rfl (by decide) np_X3_inverse rfl (Nat.le_of_ble_eq_true rfl) (by decide) (Nat.zero_add _).symm (tq_M_mono (am_X3_inverse h) ?_)
  refine tq_wl_e (fun r6 z5 h => ?_)
  refine tq_s_lmul (by decide +kernel) ?_
  refine tq_s_ldc2 (i := 20) (v := (2147483587 : Int64)) (by decide +kernel) (by decide +kernel) ?_
  refine tq_s_lrem (by decide +kernel) (by decide +kernel) ?_
  refine tq_g_lstore_n (kk := 3) (fun v7 => [.ref 16, .long r2, .null, .long v7, .null]) (by decide +kernel) (by decide) (fun _ => rfl) (fun v7 ev7 => ?_)
  replace h := h v7 ev7
  refine tq_s_lload_n (kk := 3) (by decide +kernel) rfl ?_
  refine tq_s_lload_n (kk := 1) (by decide +kernel) rfl ?_
  refine tq_s_lsub (by decide +kernel) ?_
  refine tq_s_ldc2 (i := 20) (v := (2147483587 : Int64)) (by decide +kernel) (by decide +kernel) ?_
  refine tq_callS (as := [.long (v7 - r2), .long (2147483587 : Int64)]) (st := []) (d1 := 0) (x1 := 0) (x2 := x) (by decide +kernel) ln_3_62 mf_J9_floorMod_f86c9 rfl (by decide) np_J9_floorMod_f86c9 rfl (Nat.le_of_ble_eq_true rfl) (by decide) (Nat.zero_add _).symm (tq_M_mono (am_J9_floorMod_f86c9 h) ?_)
  refine tq_wl_e (fun r9 z8 h => ?_)
  refine tq_s_ldc2 (i := 18) (v := (2147483629 : Int64)) (by decide +kernel) (by decide +kernel) ?_
  refine tq_s_ldc2 (i := 20) (v := (2147483587 : Int64)) (by decide +kernel) (by decide +kernel) ?_
  refine tq_callS (as := [.long (2147483629 : Int64), .long (2147483587 : Int64)]) (st := [.long r9]) (d1 := 1) (x1 := 0) (x2 := x) (by decide +kernel) ln_3_68 mf_X3_inverse rfl (by decide) np_X3_inverse rfl (Nat.le_of_ble_eq_true rfl) (by decide) (Nat.zero_add _).symm (tq_M_mono (am_X3_inverse h) ?_)
  refine tq_wl_e (fun r11 z10 h => ?_)
  refine tq_s_lmul (by decide +kernel) ?_
  refine tq_s_ldc2 (i := 20) (v := (2147483587 : Int64)) (by decide +kernel) (by decide +kernel) ?_
  refine tq_s_lrem (by decide +kernel) (by decide +kernel) ?_
  exact tq_ret_l (st := []) (by decide +kernel) rfl h
def wc_X0_timesPlus_58 (Q : tq_O → tq_S → Prop) (a5 : Int64) (z : tq_S) : Prop := wm_X0_addLimbs a5 z (tq_wv fun z101 => Q (.inl none) z101)
theorem ac_X0_timesPlus_58 {K : Nat × (Nat → Int32)} {x : Nat} {Q : tq_O → tq_S → Prop} {a5 : Int64} {z : tq_S} (h : wc_X0_timesPlus_58 Q a5 z) : tq_T K 1 x mm_X0_timesPlus 58 [.ref 46, .null, .null, .null, .null, .long a5, .null, .null, .null, .null] [] z Q := by
  unfold wc_X0_timesPlus_58 at h
  refine tq_s_aload_n (kk := 0) (by decide +kernel) rfl ?_
  refine tq_s_lload (i := 5) (by decide +kernel) rfl ?_
  refine tq_callV (as := [.long a5]) (st := []) (d1 := 0) (x1 := 0) (x2 := x) (by decide +kernel) ln_0_27 mf_X0_addLimbs rfl sh_46 rfl (by decide) np_X0_addLimbs rfl (Nat.le_of_ble_eq_true rfl) (by decide) (Nat.zero_add _).symm (tq_M_mono (am_X0_addLimbs h) ?_)
  refine tq_wv_e (fun z101 h => ?_)
  exact tq_ret_v (st := []) (by decide +kernel) rfl h
def wb_X0_timesPlus_6 (B6 : Int64 → Int32 → tq_S → Prop) (Q : tq_O → tq_S → Prop) (a1 : Int64) (a5 : Int64) (a7 : Int32) (z : tq_S) : Prop := (((tq_fi z 2945) ≤ a7 → wc_X0_timesPlus_58 Q a5 z) ∧ (¬ (tq_fi z 2945) ≤ a7 → vp_in a7 34 ∧ ∀ v101 : Int64, v101 = (((Int32.toInt64 (tq_ai z 47 (Int32.toNatClampNeg a7))) * a1) + a5) → vp_in a7 34 ∧ ∀ z102 : tq_S, z102 = tq_sai z 47 (upd (tq_ai z 47) (Int32.toNatClampNeg a7) (Int64.toInt32 (v101 - v101 / (1000000000 : Int64) * (1000000000 : Int64)))) → ∀ v103 : Int64, v103 = (v101 / (1000000000 : Int64)) → ∀ v104 : Int32, v104 = a7 + (1 : Int32) → B6 v103 v104 z102))
def wc_X0_timesPlus_6 (Q : tq_O → tq_S → Prop) (a1 : Int64) (a5 : Int64) (a7 : Int32) (z : tq_S) : Prop := tq_lp (σ := Int64 × Int32 × tq_S) (fun B s => wb_X0_timesPlus_6 (fun b5 b7 z => B (b5, b7, z)) Q a1 s.1 s.2.1 s.2.2) (a5, a7, z)
theorem ab_X0_timesPlus_6 {K : Nat × (Nat → Int32)} {x : Nat} {Q : tq_O → tq_S → Prop} {B6 : Int64 → Int32 → tq_S → Prop} {a1 : Int64} {a5 : Int64} {a7 : Int32} {z : tq_S} (hB6 : ∀ (b5 : Int64) (b7 : Int32) (z : tq_S), B6 b5 b7 z → tq_T K 1 x mm_X0_timesPlus 6 [.ref 46, .long a1, .null, .null, .null, .long b5, .null, .int b7, .null, .null] [] z Q) (h : wb_X0_timesPlus_6 B6 Q a1 a5 a7 z) : tq_T K 1 x mm_X0_timesPlus 6 [.ref 46, .long a1, .null, .null, .null, .long a5, .null, .int a7, .null, .null] [] z Q := by
  unfold wb_X0_timesPlus_6 at h
  refine tq_s_iload (i := 7) (by decide +kernel) rfl ?_
  refine tq_s_aload_n (kk := 0) (by decide +kernel) rfl ?_
  refine fg_0_13_46 rfl (by decide +kernel) ?_
  refine tq_icmp_ge (off := 46) (tgt := 58) (by decide +kernel) (by decide +kernel) (fun hc => ?_) (fun hc => ?_)
  · replace h := h.1 hc
    exact tq_to (tq_lk1 (tq_ld1 (tq_lk1 (tq_lk1 (tq_lk1 (tq_lk1 (tq_lk1 (tq_ld1 (tq_lk1 (tq_lk1 tq_l0)))))))))) (ac_X0_timesPlus_58 h)
  · replace h := h.2 hc
    refine tq_s_aload_n (kk := 0) (by decide +kernel) rfl ?_
    refine fg_0_9_46 rfl (by decide +kernel) ?_
    refine tq_s_iload (i := 7) (by decide +kernel) rfl ?_
    refine tq_s_iald (by decide +kernel) sh_47 h.1 ?_
    replace h := h.2
    refine tq_s_i2l (by decide +kernel) ?_
    refine tq_s_lload_n (kk := 1) (by decide +kernel) rfl ?_
    refine tq_s_lmul (by decide +kernel) ?_
    refine tq_s_lload (i := 5) (by decide +kernel) rfl ?_
    refine tq_s_ladd (by decide +kernel) ?_
    refine tq_g_lstore (i := 8) (fun v101 => [.ref 46, .long a1, .null, .null, .null, .long a5, .null, .int a7, .long v101, .null]) (by decide +kernel) (by decide) (fun _ => rfl) (fun v101 ev101 => ?_)
    replace h := h v101 ev101
    refine tq_s_aload_n (kk := 0) (by decide +kernel) rfl ?_
    refine fg_0_9_46 rfl (by decide +kernel) ?_
    refine tq_s_iload (i := 7) (by decide +kernel) rfl ?_
    refine tq_s_lload (i := 8) (by decide +kernel) rfl ?_
    refine tq_s_ldc2 (i := 31) (v := (1000000000 : Int64)) (by decide +kernel) (by decide +kernel) ?_
    refine tq_s_lrem (by decide +kernel) (by decide +kernel) ?_
    refine tq_s_l2i (by decide +kernel) ?_
    refine tq_g_iast (by decide +kernel) sh_47 h.1 (fun z102 ez102 => ?_)
    replace h := h.2 z102 ez102
    refine tq_s_lload (i := 8) (by decide +kernel) rfl ?_
    refine tq_s_ldc2 (i := 31) (v := (1000000000 : Int64)) (by decide +kernel) (by decide +kernel) ?_
    refine tq_s_ldiv (by decide +kernel) (by decide +kernel) ?_
    refine tq_g_lstore (i := 5) (fun v103 => [.ref 46, .long a1, .null, .null, .null, .long v103, .null, .int a7, .long v101, .null]) (by decide +kernel) (by decide) (fun _ => rfl) (fun v103 ev103 => ?_)
    replace h := h v103 ev103
    refine tq_g_iinc (i := 7) (fun v104 => [.ref 46, .long a1, .null, .null, .null, .long v103, .null, .int v104, .long v101, .null]) (by decide +kernel) rfl (1 : Int32) kc_1 (fun _ => rfl) (fun v104 ev104 => ?_)
    replace h := h v104 ev104
    refine tq_s_goto (off := -49) (tgt := 6) (by decide +kernel) (by decide +kernel) ?_
    exact tq_to (tq_lk1 (tq_lk1 (tq_lk1 (tq_lk1 (tq_lk1 (tq_lk1 (tq_lk1 (tq_lk1 (tq_ld1 (tq_lk1 tq_l0)))))))))) (hB6 _ _ _ h)
theorem ac_X0_timesPlus_6 {K : Nat × (Nat → Int32)} {x : Nat} {Q : tq_O → tq_S → Prop} {a1 : Int64} {a5 : Int64} {a7 : Int32} {z : tq_S} (h : wc_X0_timesPlus_6 Q a1 a5 a7 z) : tq_T K 1 x mm_X0_timesPlus 6 [.ref 46, .long a1, .null, .null, .null, .long a5, .null, .int a7, .null, .null] [] z Q :=
  tq_lp_T (σ := Int64 × Int32 × tq_S) (s := (a5, a7, z)) (G := fun s => tq_T K 1 x mm_X0_timesPlus 6 [.ref 46, .long a1, .null, .null, .null, .long s.1, .null, .int s.2.1, .null, .null] [] s.2.2 Q) (fun B hB s h => ab_X0_timesPlus_6 (fun b5 b7 z h => hB (b5, b7, z) h) h) h
def wm_X0_timesPlus (a1 : Int64) (a3 : Int64) (z : tq_S) (Q : tq_O → tq_S → Prop) : Prop := wc_X0_timesPlus_6 Q a1 a3 (0 : Int32) z
theorem am_X0_timesPlus {K : Nat × (Nat → Int32)} {x : Nat} {z : tq_S} {Q : tq_O → tq_S → Prop} {a1 : Int64} {a3 : Int64} (h : wm_X0_timesPlus a1 a3 z Q) : tq_M K 1 x mm_X0_timesPlus [.ref 46, .long a1, .long a3] z Q := by
  unfold wm_X0_timesPlus at h
  refine tq_enter (L := [.ref 46, .long a1, .null, .long a3, .null, .null, .null, .null, .null, .null]) mf_X0_timesPlus.1 rfl rfl (Nat.le_of_ble_eq_true rfl) ?_
  refine tq_s_lload_n (kk := 3) (by decide +kernel) rfl ?_
  refine tq_s_lstore (i := 5) (L9 := [.ref 46, .long a1, .null, .long a3, .null, .long a3, .null, .null, .null, .null]) (by decide +kernel) (by decide) rfl ?_
  refine tq_k_ic (n := 0) (v := (0 : Int32)) (by decide +kernel) kc_0 ?_
  refine tq_s_istore (i := 7) (L9 := [.ref 46, .long a1, .null, .long a3, .null, .long a3, .null, .int (0 : Int32), .null, .null]) (by decide +kernel) (by decide) rfl ?_
  exact tq_to (tq_lk1 (tq_lk1 (tq_lk1 (tq_ld1 (tq_lk1 (tq_lk1 (tq_lk1 (tq_lk1 (tq_lk1 (tq_lk1 tq_l0)))))))))) (ac_X0_timesPlus_6 h)
def wc_X3_countHexagon_59 (B3 : Int32 → tq_S → Prop) (B12 : Int32 → tq_S → Prop) (Q : tq_O → tq_S → Prop) (a1 : Int32) (a2 : Int32) (a3 : Int32) (a5 : Int32) (a6 : Int32) (z : tq_S) : Prop := ∀ v101 : Int32, v101 = a6 + (1 : Int32) → B12 v101 z
theorem ac_X3_countHexagon_59 {K : Nat × (Nat → Int32)} {x : Nat} {Q : tq_O → tq_S → Prop} {B3 : Int32 → tq_S → Prop} {B12 : Int32 → tq_S → Prop} {a1 : Int32} {a2 : Int32} {a3 : Int32} {a5 : Int32} {a6 : Int32} {z : tq_S} (hB3 : ∀ (b5 : Int32) (z : tq_S), B3 b5 z → tq_T K 4 x mm_X3_countHexagon 3 [.ref 16, .int a1, .int a2, .int a3, .ref 46, .int b5, .null, .null] [] z Q) (hB12 : ∀ (b6 : Int32) (z : tq_S), B12 b6 z → tq_T K 4 x mm_X3_countHexagon 12 [.ref 16, .int a1, .int a2, .int a3, .ref 46, .int a5, .int b6, .null] [] z Q) (h : wc_X3_countHexagon_59 B3 B12 Q a1 a2 a3 a5 a6 z) : tq_T K 4 x mm_X3_countHexagon 59 [.ref 16, .int a1, .int a2, .int a3, .ref 46, .int a5, .int a6, .null] [] z Q := by
  unfold wc_X3_countHexagon_59 at h
  refine tq_g_iinc (i := 6) (fun v101 => [.ref 16, .int a1, .int a2, .int a3, .ref 46, .int a5, .int v101, .null]) (by decide +kernel) rfl (1 : Int32) kc_1 (fun _ => rfl) (fun v101 ev101 => ?_)
  replace h := h v101 ev101
  refine tq_s_goto (off := -50) (tgt := 12) (by decide +kernel) (by decide +kernel) ?_
  exact hB12 _ _ h
def wb_X3_countHexagon_21 (B3 : Int32 → tq_S → Prop) (B12 : Int32 → tq_S → Prop) (B21 : Int32 → tq_S → Prop) (Q : tq_O → tq_S → Prop) (a1 : Int32) (a2 : Int32) (a3 : Int32) (a5 : Int32) (a6 : Int32) (a7 : Int32) (z : tq_S) : Prop := ((a1 ≤ a7 → wc_X3_countHexagon_59 B3 B12 Q a1 a2 a3 a5 a6 z) ∧ (¬ a1 ≤ a7 → wm_X3_choose (a2 + a3) ((a2 - a6) + a7) z (tq_wl fun r102 z101 => vp_in ((a6 * (32 : Int32)) + a7) 1024 ∧ ∀ z103 : tq_S, z103 = tq_sal z101 17 (vp_updL (tq_al z101 17) (Int32.toNatClampNeg ((a6 * (32 : Int32)) + a7)) r102) → ∀ v104 : Int32, v104 = a7 + (1 : Int32) → B21 v104 z103)))
def wc_X3_countHexagon_21 (B3 : Int32 → tq_S → Prop) (B12 : Int32 → tq_S → Prop) (Q : tq_O → tq_S → Prop) (a1 : Int32) (a2 : Int32) (a3 : Int32) (a5 : Int32) (a6 : Int32) (a7 : Int32) (z : tq_S) : Prop := tq_lp (σ := Int32 × tq_S) (fun B s => wb_X3_countHexagon_21 B3 B12 (fun b7 z => B (b7, z)) Q a1 a2 a3 a5 a6 s.1 s.2) (a7, z)
theorem ab_X3_countHexagon_21 {K : Nat × (Nat → Int32)} {x : Nat} {Q : tq_O → tq_S → Prop} {B3 : Int32 → tq_S → Prop} {B12 : Int32 → tq_S → Prop} {B21 : Int32 → tq_S → Prop} {a1 : Int32} {a2 : Int32} {a3 : Int32} {a5 : Int32} {a6 : Int32} {a7 : Int32} {z : tq_S} (hB3 : ∀ (b5 : Int32) (z : tq_S), B3 b5 z → tq_T K 4 x mm_X3_countHexagon 3 [.ref 16, .int a1, .int a2, .int a3, .ref 46, .int b5, .null, .null] [] z Q) (hB12 : ∀ (b6 : Int32) (z : tq_S), B12 b6 z → tq_T K 4 x mm_X3_countHexagon 12 [.ref 16, .int a1, .int a2, .int a3, .ref 46, .int a5, .int b6, .null] [] z Q) (hB21 : ∀ (b7 : Int32) (z : tq_S), B21 b7 z → tq_T K 4 x mm_X3_countHexagon 21 [.ref 16, .int a1, .int a2, .int a3, .ref 46, .int a5, .int a6, .int b7] [] z Q) (h : wb_X3_countHexagon_21 B3 B12 B21 Q a1 a2 a3 a5 a6 a7 z) : tq_T K 4 x mm_X3_countHexagon 21 [.ref 16, .int a1, .int a2, .int a3, .ref 46, .int a5, .int a6, .int a7] [] z Q := by
  unfold wb_X3_countHexagon_21 at h
  refine tq_s_iload (i := 7) (by decide +kernel) rfl ?_
  refine tq_s_iload_n (kk := 1) (by decide +kernel) rfl ?_
  refine tq_icmp_ge (off := 35) (tgt := 59) (by decide +kernel) (by decide +kernel) (fun hc => ?_) (fun hc => ?_)
  · replace h := h.1 hc
    exact tq_to (tq_lk1 (tq_lk1 (tq_lk1 (tq_lk1 (tq_lk1 (tq_lk1 (tq_lk1 (tq_ld1 tq_l0)))))))) (ac_X3_countHexagon_59 hB3 hB12 h)
  · replace h := h.2 hc
    refine tq_s_aload_n (kk := 0) (by decide +kernel) rfl ?_
    refine fg_3_9_16 rfl (by decide +kernel) ?_
    refine tq_s_iload (i := 6) (by decide +kernel) rfl ?_
    refine tq_k_bi (n := 32) (v := (32 : Int32)) (by decide +kernel) kb_32 ?_
    refine tq_s_imul (by decide +kernel) ?_
    refine tq_s_iload (i := 7) (by decide +kernel) rfl ?_
    refine tq_s_iadd (by decide +kernel) ?_
    refine tq_s_iload_n (kk := 2) (by decide +kernel) rfl ?_
    refine tq_s_iload_n (kk := 3) (by decide +kernel) rfl ?_
    refine tq_s_iadd (by decide +kernel) ?_
    refine tq_s_iload_n (kk := 2) (by decide +kernel) rfl ?_
    refine tq_s_iload (i := 6) (by decide +kernel) rfl ?_
    refine tq_s_isub (by decide +kernel) ?_
    refine tq_s_iload (i := 7) (by decide +kernel) rfl ?_
    refine tq_s_iadd (by decide +kernel) ?_
    refine tq_callS (as := [.int (a2 + a3), .int ((a2 - a6) + a7)]) (st := [.int ((a6 * (32 : Int32)) + a7), .ref 17]) (d1 := 0) (x1 := 0) (x2 := x) (by decide +kernel) ln_3_96 mf_X3_choose rfl (by decide) np_X3_choose rfl (Nat.le_of_ble_eq_true rfl) (by decide) (Nat.zero_add _).symm (tq_M_mono (am_X3_choose h) ?_)
    refine tq_wl_e (fun r102 z101 h => ?_)
    refine tq_g_last (by decide +kernel) sh_17 h.1 (fun z103 ez103 => ?_)
    replace h := h.2 z103 ez103
    refine tq_g_iinc (i := 7) (fun v104 => [.ref 16, .int a1, .int a2, .int a3, .ref 46, .int a5, .int a6, .int v104]) (by decide +kernel) rfl (1 : Int32) kc_1 (fun _ => rfl) (fun v104 ev104 => ?_)
    replace h := h v104 ev104
    refine tq_s_goto (off := -35) (tgt := 21) (by decide +kernel) (by decide +kernel) ?_
    exact hB21 _ _ h
theorem ac_X3_countHexagon_21 {K : Nat × (Nat → Int32)} {x : Nat} {Q : tq_O → tq_S → Prop} {B3 : Int32 → tq_S → Prop} {B12 : Int32 → tq_S → Prop} {a1 : Int32} {a2 : Int32} {a3 : Int32} {a5 : Int32} {a6 : Int32} {a7 : Int32} {z : tq_S} (hB3 : ∀ (b5 : Int32) (z : tq_S), B3 b5 z → tq_T K 4 x mm_X3_countHexagon 3 [.ref 16, .int a1, .int a2, .int a3, .ref 46, .int b5, .null, .null] [] z Q) (hB12 : ∀ (b6 : Int32) (z : tq_S), B12 b6 z → tq_T K 4 x mm_X3_countHexagon 12 [.ref 16, .int a1, .int a2, .int a3, .ref 46, .int a5, .int b6, .null] [] z Q) (h : wc_X3_countHexagon_21 B3 B12 Q a1 a2 a3 a5 a6 a7 z) : tq_T K 4 x mm_X3_countHexagon 21 [.ref 16, .int a1, .int a2, .int a3, .ref 46, .int a5, .int a6, .int a7] [] z Q :=
  tq_lp_T (σ := Int32 × tq_S) (s := (a7, z)) (G := fun s => tq_T K 4 x mm_X3_countHexagon 21 [.ref 16, .int a1, .int a2, .int a3, .ref 46, .int a5, .int a6, .int s.1] [] s.2 Q) (fun B hB s h => ab_X3_countHexagon_21 hB3 hB12 (fun b7 z h => hB (b7, z) h) h) h
def wc_X3_countHexagon_65 (B3 : Int32 → tq_S → Prop) (Q : tq_O → tq_S → Prop) (a1 : Int32) (a2 : Int32) (a3 : Int32) (a5 : Int32) (z : tq_S) : Prop := wm_X3_prime a5 z (tq_wl fun r102 z101 => wm_X3_eliminate a1 r102 z101 (tq_wl fun r104 z103 => vp_in a5 3 ∧ ∀ z105 : tq_S, z105 = tq_sal z103 18 (vp_updL (tq_al z103 18) (Int32.toNatClampNeg a5) r104) → ∀ v106 : Int32, v106 = a5 + (1 : Int32) → B3 v106 z105))
theorem ac_X3_countHexagon_65 {K : Nat × (Nat → Int32)} {x : Nat} {Q : tq_O → tq_S → Prop} {B3 : Int32 → tq_S → Prop} {a1 : Int32} {a2 : Int32} {a3 : Int32} {a5 : Int32} {z : tq_S} (hB3 : ∀ (b5 : Int32) (z : tq_S), B3 b5 z → tq_T K 4 x mm_X3_countHexagon 3 [.ref 16, .int a1, .int a2, .int a3, .ref 46, .int b5, .null, .null] [] z Q) (h : wc_X3_countHexagon_65 B3 Q a1 a2 a3 a5 z) : tq_T K 4 x mm_X3_countHexagon 65 [.ref 16, .int a1, .int a2, .int a3, .ref 46, .int a5, .null, .null] [] z Q := by
  unfold wc_X3_countHexagon_65 at h
  refine tq_s_aload_n (kk := 0) (by decide +kernel) rfl ?_
  refine fg_3_13_16 rfl (by decide +kernel) ?_
  refine tq_s_iload (i := 5) (by decide +kernel) rfl ?_
  refine tq_s_aload_n (kk := 0) (by decide +kernel) rfl ?_
  refine tq_s_iload_n (kk := 1) (by decide +kernel) rfl ?_
  refine tq_s_iload (i := 5) (by decide +kernel) rfl ?_
  refine tq_callS (as := [.int a5]) (st := [.int a1, .ref 16, .int a5, .ref 18]) (d1 := 0) (x1 := 0) (x2 := x) (by decide +kernel) ln_3_44 mf_X3_prime rfl (by decide) np_X3_prime rfl (Nat.le_of_ble_eq_true rfl) (by decide) (Nat.zero_add _).symm (tq_M_mono (am_X3_prime h) ?_)
  refine tq_wl_e (fun r102 z101 h => ?_)
  refine tq_callV (as := [.int a1, .long r102]) (st := [.int a5, .ref 18]) (d1 := 2) (x1 := 0) (x2 := x) (by decide +kernel) ln_3_52 mf_X3_eliminate rfl sh_16 rfl (by decide) np_X3_eliminate rfl (Nat.le_of_ble_eq_true rfl) (by decide) (Nat.zero_add _).symm (tq_M_mono (am_X3_eliminate h) ?_)
  refine tq_wl_e (fun r104 z103 h => ?_)
  refine tq_g_last (by decide +kernel) sh_18 h.1 (fun z105 ez105 => ?_)
  replace h := h.2 z105 ez105
  refine tq_g_iinc (i := 5) (fun v106 => [.ref 16, .int a1, .int a2, .int a3, .ref 46, .int v106, .null, .null]) (by decide +kernel) rfl (1 : Int32) kc_1 (fun _ => rfl) (fun v106 ev106 => ?_)
  replace h := h v106 ev106
  refine tq_s_goto (off := -82) (tgt := 3) (by decide +kernel) (by decide +kernel) ?_
  exact hB3 _ _ h
def wb_X3_countHexagon_12 (B3 : Int32 → tq_S → Prop) (B12 : Int32 → tq_S → Prop) (Q : tq_O → tq_S → Prop) (a1 : Int32) (a2 : Int32) (a3 : Int32) (a5 : Int32) (a6 : Int32) (z : tq_S) : Prop := ((a1 ≤ a6 → wc_X3_countHexagon_65 B3 Q a1 a2 a3 a5 z) ∧ (¬ a1 ≤ a6 → wc_X3_countHexagon_21 B3 B12 Q a1 a2 a3 a5 a6 (0 : Int32) z))
def wc_X3_countHexagon_12 (B3 : Int32 → tq_S → Prop) (Q : tq_O → tq_S → Prop) (a1 : Int32) (a2 : Int32) (a3 : Int32) (a5 : Int32) (a6 : Int32) (z : tq_S) : Prop := tq_lp (σ := Int32 × tq_S) (fun B s => wb_X3_countHexagon_12 B3 (fun b6 z => B (b6, z)) Q a1 a2 a3 a5 s.1 s.2) (a6, z)
theorem ab_X3_countHexagon_12 {K : Nat × (Nat → Int32)} {x : Nat} {Q : tq_O → tq_S → Prop} {B3 : Int32 → tq_S → Prop} {B12 : Int32 → tq_S → Prop} {a1 : Int32} {a2 : Int32} {a3 : Int32} {a5 : Int32} {a6 : Int32} {z : tq_S} (hB3 : ∀ (b5 : Int32) (z : tq_S), B3 b5 z → tq_T K 4 x mm_X3_countHexagon 3 [.ref 16, .int a1, .int a2, .int a3, .ref 46, .int b5, .null, .null] [] z Q) (hB12 : ∀ (b6 : Int32) (z : tq_S), B12 b6 z → tq_T K 4 x mm_X3_countHexagon 12 [.ref 16, .int a1, .int a2, .int a3, .ref 46, .int a5, .int b6, .null] [] z Q) (h : wb_X3_countHexagon_12 B3 B12 Q a1 a2 a3 a5 a6 z) : tq_T K 4 x mm_X3_countHexagon 12 [.ref 16, .int a1, .int a2, .int a3, .ref 46, .int a5, .int a6, .null] [] z Q := by
  unfold wb_X3_countHexagon_12 at h
  refine tq_s_iload (i := 6) (by decide +kernel) rfl ?_
  refine tq_s_iload_n (kk := 1) (by decide +kernel) rfl ?_
  refine tq_icmp_ge (off := 50) (tgt := 65) (by decide +kernel) (by decide +kernel) (fun hc => ?_) (fun hc => ?_)
  · replace h := h.1 hc
    exact tq_to (tq_lk1 (tq_lk1 (tq_lk1 (tq_lk1 (tq_lk1 (tq_lk1 (tq_ld1 (tq_lk1 tq_l0)))))))) (ac_X3_countHexagon_65 hB3 h)
  · replace h := h.2 hc
    refine tq_k_ic (n := 0) (v := (0 : Int32)) (by decide +kernel) kc_0 ?_
    refine tq_s_istore (i := 7) (L9 := [.ref 16, .int a1, .int a2, .int a3, .ref 46, .int a5, .int a6, .int (0 : Int32)]) (by decide +kernel) (by decide) rfl ?_
    exact ac_X3_countHexagon_21 hB3 hB12 h
theorem ac_X3_countHexagon_12 {K : Nat × (Nat → Int32)} {x : Nat} {Q : tq_O → tq_S → Prop} {B3 : Int32 → tq_S → Prop} {a1 : Int32} {a2 : Int32} {a3 : Int32} {a5 : Int32} {a6 : Int32} {z : tq_S} (hB3 : ∀ (b5 : Int32) (z : tq_S), B3 b5 z → tq_T K 4 x mm_X3_countHexagon 3 [.ref 16, .int a1, .int a2, .int a3, .ref 46, .int b5, .null, .null] [] z Q) (h : wc_X3_countHexagon_12 B3 Q a1 a2 a3 a5 a6 z) : tq_T K 4 x mm_X3_countHexagon 12 [.ref 16, .int a1, .int a2, .int a3, .ref 46, .int a5, .int a6, .null] [] z Q :=
  tq_lp_T (σ := Int32 × tq_S) (s := (a6, z)) (G := fun s => tq_T K 4 x mm_X3_countHexagon 12 [.ref 16, .int a1, .int a2, .int a3, .ref 46, .int a5, .int s.1, .null] [] s.2 Q) (fun B hB s h => ab_X3_countHexagon_12 hB3 (fun b6 z h => hB (b6, z) h) h) h
def wc_X3_countHexagon_88 (Q : tq_O → tq_S → Prop)  (z : tq_S) : Prop := wm_X3_thirdDigit z (tq_wl fun r102 z101 => wm_X0_put r102 z101 (tq_wv fun z103 => wm_X3_secondDigit z103 (tq_wl fun r105 z104 => wm_X0_timesPlus (2147483629 : Int64) r105 z104 (tq_wv fun z106 => wm_X0_timesPlus (2147483647 : Int64) (tq_al z106 18 (Int32.toNatClampNeg (0 : Int32))) z106 (tq_wv fun z107 => Q (.inl none) z107)))))
theorem ac_X3_countHexagon_88 {K : Nat × (Nat → Int32)} {x : Nat} {Q : tq_O → tq_S → Prop}  {z : tq_S} (h : wc_X3_countHexagon_88 Q z) : tq_T K 4 x mm_X3_countHexagon 88 [.ref 16, .null, .null, .null, .ref 46, .null, .null, .null] [] z Q := by
  unfold wc_X3_countHexagon_88 at h
  refine tq_s_aload (i := 4) (by decide +kernel) rfl ?_
  refine tq_s_aload_n (kk := 0) (by decide +kernel) rfl ?_
  refine tq_callV (as := []) (st := [.ref 46]) (d1 := 3) (x1 := 0) (x2 := x) (by decide +kernel) ln_3_99 mf_X3_thirdDigit rfl sh_16 rfl (by decide) np_X3_thirdDigit rfl (Nat.le_of_ble_eq_true rfl) (by decide) (Nat.zero_add _).symm (tq_M_mono (am_X3_thirdDigit h) ?_)
  refine tq_wl_e (fun r102 z101 h => ?_)
  refine tq_callVN (as := [.long r102]) (st := []) (d1 := 1) (x1 := 0) (x2 := x) (by decide +kernel) ln_3_102 mf_X0_put rfl sh_46 rfl (by decide) np_X0_put rfl (Nat.le_of_ble_eq_true rfl) (by decide) (Nat.zero_add _).symm (tq_M_mono (am_X0_put h) ?_)
  refine tq_wv_e (fun z103 h => ?_)
  refine tq_s_aload (i := 4) (by decide +kernel) rfl ?_
  refine tq_s_ldc2 (i := 18) (v := (2147483629 : Int64)) (by decide +kernel) (by decide +kernel) ?_
  refine tq_s_aload_n (kk := 0) (by decide +kernel) rfl ?_
  refine tq_callV (as := []) (st := [.long (2147483629 : Int64), .ref 46]) (d1 := 2) (x1 := 0) (x2 := x) (by decide +kernel) ln_3_56 mf_X3_secondDigit rfl sh_16 rfl (by decide) np_X3_secondDigit rfl (Nat.le_of_ble_eq_true rfl) (by decide) (Nat.zero_add _).symm (tq_M_mono (am_X3_secondDigit h) ?_)
  refine tq_wl_e (fun r105 z104 h => ?_)
  refine tq_callVN (as := [.long (2147483629 : Int64), .long r105]) (st := []) (d1 := 1) (x1 := 0) (x2 := x) (by decide +kernel) ln_3_108 mf_X0_timesPlus rfl sh_46 rfl (by decide) np_X0_timesPlus rfl (Nat.le_of_ble_eq_true rfl) (by decide) (Nat.zero_add _).symm (tq_M_mono (am_X0_timesPlus h) ?_)
  refine tq_wv_e (fun z106 h => ?_)
  refine tq_s_aload (i := 4) (by decide +kernel) rfl ?_
  refine tq_s_ldc2 (i := 16) (v := (2147483647 : Int64)) (by decide +kernel) (by decide +kernel) ?_
  refine tq_s_aload_n (kk := 0) (by decide +kernel) rfl ?_
  refine fg_3_13_16 rfl (by decide +kernel) ?_
  refine tq_k_ic (n := 0) (v := (0 : Int32)) (by decide +kernel) kc_0 ?_
  refine tq_s_lald (by decide +kernel) sh_18 vi_0_3 ?_
  refine tq_callVN (as := [.long (2147483647 : Int64), .long (tq_al z106 18 (Int32.toNatClampNeg (0 : Int32)))]) (st := []) (d1 := 1) (x1 := 0) (x2 := x) (by decide +kernel) ln_3_108 mf_X0_timesPlus rfl sh_46 rfl (by decide) np_X0_timesPlus rfl (Nat.le_of_ble_eq_true rfl) (by decide) (Nat.zero_add _).symm (tq_M_mono (am_X0_timesPlus h) ?_)
  refine tq_wv_e (fun z107 h => ?_)
  exact tq_ret_v (st := []) (by decide +kernel) rfl h
def wb_X3_countHexagon_3 (B3 : Int32 → tq_S → Prop) (Q : tq_O → tq_S → Prop) (a1 : Int32) (a2 : Int32) (a3 : Int32) (a5 : Int32) (z : tq_S) : Prop := (((3 : Int32) ≤ a5 → wc_X3_countHexagon_88 Q z) ∧ (¬ (3 : Int32) ≤ a5 → wc_X3_countHexagon_12 B3 Q a1 a2 a3 a5 (0 : Int32) z))
def wc_X3_countHexagon_3 (Q : tq_O → tq_S → Prop) (a1 : Int32) (a2 : Int32) (a3 : Int32) (a5 : Int32) (z : tq_S) : Prop := tq_lp (σ := Int32 × tq_S) (fun B s => wb_X3_countHexagon_3 (fun b5 z => B (b5, z)) Q a1 a2 a3 s.1 s.2) (a5, z)
theorem ab_X3_countHexagon_3 {K : Nat × (Nat → Int32)} {x : Nat} {Q : tq_O → tq_S → Prop} {B3 : Int32 → tq_S → Prop} {a1 : Int32} {a2 : Int32} {a3 : Int32} {a5 : Int32} {z : tq_S} (hB3 : ∀ (b5 : Int32) (z : tq_S), B3 b5 z → tq_T K 4 x mm_X3_countHexagon 3 [.ref 16, .int a1, .int a2, .int a3, .ref 46, .int b5, .null, .null] [] z Q) (h : wb_X3_countHexagon_3 B3 Q a1 a2 a3 a5 z) : tq_T K 4 x mm_X3_countHexagon 3 [.ref 16, .int a1, .int a2, .int a3, .ref 46, .int a5, .null, .null] [] z Q := by
  unfold wb_X3_countHexagon_3 at h
  refine tq_s_iload (i := 5) (by decide +kernel) rfl ?_
  refine tq_k_ic (n := 3) (v := (3 : Int32)) (by decide +kernel) kc_3 ?_
  refine tq_icmp_ge (off := 82) (tgt := 88) (by decide +kernel) (by decide +kernel) (fun hc => ?_) (fun hc => ?_)
  · replace h := h.1 hc
    exact tq_to (tq_lk1 (tq_ld1 (tq_ld1 (tq_ld1 (tq_lk1 (tq_ld1 (tq_lk1 (tq_lk1 tq_l0)))))))) (ac_X3_countHexagon_88 h)
  · replace h := h.2 hc
    refine tq_k_ic (n := 0) (v := (0 : Int32)) (by decide +kernel) kc_0 ?_
    refine tq_s_istore (i := 6) (L9 := [.ref 16, .int a1, .int a2, .int a3, .ref 46, .int a5, .int (0 : Int32), .null]) (by decide +kernel) (by decide) rfl ?_
    exact ac_X3_countHexagon_12 hB3 h
theorem ac_X3_countHexagon_3 {K : Nat × (Nat → Int32)} {x : Nat} {Q : tq_O → tq_S → Prop} {a1 : Int32} {a2 : Int32} {a3 : Int32} {a5 : Int32} {z : tq_S} (h : wc_X3_countHexagon_3 Q a1 a2 a3 a5 z) : tq_T K 4 x mm_X3_countHexagon 3 [.ref 16, .int a1, .int a2, .int a3, .ref 46, .int a5, .null, .null] [] z Q :=
  tq_lp_T (σ := Int32 × tq_S) (s := (a5, z)) (G := fun s => tq_T K 4 x mm_X3_countHexagon 3 [.ref 16, .int a1, .int a2, .int a3, .ref 46, .int s.1, .null, .null] [] s.2 Q) (fun B hB s h => ab_X3_countHexagon_3 (fun b5 z h => hB (b5, z) h) h) h
def wm_X3_countHexagon (a1 : Int32) (a2 : Int32) (a3 : Int32) (z : tq_S) (Q : tq_O → tq_S → Prop) : Prop := wc_X3_countHexagon_3 Q a1 a2 a3 (0 : Int32) z
theorem am_X3_countHexagon {K : Nat × (Nat → Int32)} {x : Nat} {z : tq_S} {Q : tq_O → tq_S → Prop} {a1 : Int32} {a2 : Int32} {a3 : Int32} (h : wm_X3_countHexagon a1 a2 a3 z Q) : tq_M K 4 x mm_X3_countHexagon [.ref 16, .int a1, .int a2, .int a3, .ref 46] z Q := by
  unfold wm_X3_countHexagon at h
  refine tq_enter (L := [.ref 16, .int a1, .int a2, .int a3, .ref 46, .null, .null, .null]) mf_X3_countHexagon.1 rfl rfl (Nat.le_of_ble_eq_true rfl) ?_
  refine tq_k_ic (n := 0) (v := (0 : Int32)) (by decide +kernel) kc_0 ?_
  refine tq_s_istore (i := 5) (L9 := [.ref 16, .int a1, .int a2, .int a3, .ref 46, .int (0 : Int32), .null, .null]) (by decide +kernel) (by decide) rfl ?_
  exact ac_X3_countHexagon_3 h
def wm_X11_hexagon (a1 : Int32) (a2 : Int32) (a3 : Int32) (z : tq_S) (Q : tq_O → tq_S → Prop) : Prop := wm_X11_areSides a1 a2 a3 z (tq_wi fun r2 z1 => ((¬ r2 = 0 → wm_X3_countHexagon a1 a2 a3 z1 (tq_wv fun z3 => wm_X11_sayAnswer z3 (tq_wi fun r5 z4 => Q (.inl (some (.int r5))) z4))) ∧ (r2 = 0 → Q (.inr 1) z1)))
theorem am_X11_hexagon {K : Nat × (Nat → Int32)} {z : tq_S} {Q : tq_O → tq_S → Prop} {a1 : Int32} {a2 : Int32} {a3 : Int32} (h : wm_X11_hexagon a1 a2 a3 z Q) : tq_M K 5 1 mm_X11_hexagon [.ref 0, .int a1, .int a2, .int a3] z Q := by
  unfold wm_X11_hexagon at h
  refine tq_enter (L := [.ref 0, .int a1, .int a2, .int a3]) mf_X11_hexagon.1 rfl rfl (Nat.le_of_ble_eq_true rfl) ?_
  refine tq_s_iload_n (kk := 1) (by decide +kernel) rfl ?_
  refine tq_s_iload_n (kk := 2) (by decide +kernel) rfl ?_
  refine tq_s_iload_n (kk := 3) (by decide +kernel) rfl ?_
  refine tq_callS (as := [.int a1, .int a2, .int a3]) (st := []) (d1 := 1) (x1 := 0) (x2 := 1) (by decide +kernel) ln_11_407 mf_X11_areSides rfl (by decide) np_X11_areSides rfl (Nat.le_of_ble_eq_true rfl) (by decide) (Nat.zero_add _).symm (tq_M_mono (am_X11_areSides h) ?_)
  refine tq_wi_e (fun r2 z1 h => ?_)
  refine tq_if_ne (off := 14) (tgt := 20) (by decide +kernel) (by decide +kernel) (fun hc => ?_) (fun hc => ?_)
  · replace h := h.1 hc
    refine tq_s_aload_n (kk := 0) (by decide +kernel) rfl ?_
    refine fg_11_42_0 rfl (by decide +kernel) ?_
    refine tq_s_iload_n (kk := 1) (by decide +kernel) rfl ?_
    refine tq_s_iload_n (kk := 2) (by decide +kernel) rfl ?_
    refine tq_s_iload_n (kk := 3) (by decide +kernel) rfl ?_
    refine tq_s_aload_n (kk := 0) (by decide +kernel) rfl ?_
    refine fg_11_86_0 rfl (by decide +kernel) ?_
    refine tq_callVN (as := [.int a1, .int a2, .int a3, .ref 46]) (st := []) (d1 := 4) (x1 := 0) (x2 := 1) (by decide +kernel) ln_11_412 mf_X3_countHexagon rfl sh_16 rfl (by decide) np_X3_countHexagon rfl (Nat.le_of_ble_eq_true rfl) (by decide) (Nat.zero_add _).symm (tq_M_mono (am_X3_countHexagon h) ?_)
    refine tq_wv_e (fun z3 h => ?_)
    refine tq_s_aload_n (kk := 0) (by decide +kernel) rfl ?_
    refine tq_callV (as := []) (st := []) (d1 := 2) (x1 := 0) (x2 := 1) (by decide +kernel) ln_11_394 mf_X11_sayAnswer rfl sh_0 rfl (by decide) np_X11_sayAnswer rfl (Nat.le_of_ble_eq_true rfl) (by decide) (Nat.zero_add _).symm (tq_M_mono (am_X11_sayAnswer h) ?_)
    refine tq_wi_e (fun r5 z4 h => ?_)
    exact tq_ret_i (st := []) (by decide +kernel) rfl h
  · replace h := h.2 hc
    exact tq_throwSW th_11_105_410 rfl (by decide +kernel) (by decide +kernel) (by decide +kernel) (by decide +kernel) (by decide +kernel) (Nat.le_of_ble_eq_true rfl) rfl (Nat.le_refl 1) h
def wc_X0_divideBy_79 (B18 : Int64 → Int32 → Int32 → tq_S → Prop) (Q : tq_O → tq_S → Prop) (a1 : Int32) (a2 : Int64) (a4 : Int32) (a5 : Int32) (z : tq_S) : Prop := ∀ v101 : Int32, v101 = a5 + (-1 : Int32) → B18 a2 a4 v101 z
theorem ac_X0_divideBy_79 {K : Nat × (Nat → Int32)} {x : Nat} {Q : tq_O → tq_S → Prop} {B18 : Int64 → Int32 → Int32 → tq_S → Prop} {a1 : Int32} {a2 : Int64} {a4 : Int32} {a5 : Int32} {z : tq_S} (hB18 : ∀ (b2 : Int64) (b4 : Int32) (b5 : Int32) (z : tq_S), B18 b2 b4 b5 z → tq_T K 0 x mm_X0_divideBy 18 [.ref 46, .int a1, .long b2, .null, .int b4, .int b5, .null, .null] [] z Q) (h : wc_X0_divideBy_79 B18 Q a1 a2 a4 a5 z) : tq_T K 0 x mm_X0_divideBy 79 [.ref 46, .int a1, .long a2, .null, .int a4, .int a5, .null, .null] [] z Q := by
  unfold wc_X0_divideBy_79 at h
  refine tq_g_iinc (i := 5) (fun v101 => [.ref 46, .int a1, .long a2, .null, .int a4, .int v101, .null, .null]) (by decide +kernel) rfl (-1 : Int32) kc_m1 (fun _ => rfl) (fun v101 ev101 => ?_)
  replace h := h v101 ev101
  refine tq_s_goto (off := -64) (tgt := 18) (by decide +kernel) (by decide +kernel) ?_
  exact hB18 _ _ _ _ h
def wc_X0_divideBy_85 (Q : tq_O → tq_S → Prop) (a4 : Int32) (z : tq_S) : Prop := ∀ z101 : tq_S, z101 = tq_sfi z 2945 a4 → Q (.inl none) z101
theorem ac_X0_divideBy_85 {K : Nat × (Nat → Int32)} {x : Nat} {Q : tq_O → tq_S → Prop} {a4 : Int32} {z : tq_S} (h : wc_X0_divideBy_85 Q a4 z) : tq_T K 0 x mm_X0_divideBy 85 [.ref 46, .null, .null, .null, .int a4, .null, .null, .null] [] z Q := by
  unfold wc_X0_divideBy_85 at h
  refine tq_s_aload_n (kk := 0) (by decide +kernel) rfl ?_
  refine tq_s_iload (i := 4) (by decide +kernel) rfl ?_
  refine fp_0_13_46 rfl (by decide +kernel) (fun z101 ez101 => ?_)
  replace h := h z101 ez101
  exact tq_ret_v (st := []) (by decide +kernel) rfl h
def wb_X0_divideBy_18 (B18 : Int64 → Int32 → Int32 → tq_S → Prop) (Q : tq_O → tq_S → Prop) (a1 : Int32) (a2 : Int64) (a4 : Int32) (a5 : Int32) (z : tq_S) : Prop := ((a5 < 0 → wc_X0_divideBy_85 Q a4 z) ∧ (¬ a5 < 0 → vp_in a5 34 ∧ ∀ v101 : Int64, v101 = ((a2 * (1000000000 : Int64)) + (Int32.toInt64 (tq_ai z 47 (Int32.toNatClampNeg a5)))) → (¬ (Int32.toInt64 a1) = 0) ∧ vp_in a5 34 ∧ ∀ z102 : tq_S, z102 = tq_sai z 47 (upd (tq_ai z 47) (Int32.toNatClampNeg a5) (Int64.toInt32 (v101 / (Int32.toInt64 a1)))) → (¬ (Int32.toInt64 a1) = 0) ∧ ∀ v103 : Int64, v103 = (v101 - v101 / (Int32.toInt64 a1) * (Int32.toInt64 a1)) → ((¬ a4 = 0 → wc_X0_divideBy_79 B18 Q a1 v103 a4 a5 z102) ∧ (a4 = 0 → vp_in a5 34 ∧ (((tq_ai z102 47 (Int32.toNatClampNeg a5)) = 0 → wc_X0_divideBy_79 B18 Q a1 v103 a4 a5 z102) ∧ (¬ (tq_ai z102 47 (Int32.toNatClampNeg a5)) = 0 → ∀ v104 : Int32, v104 = (a5 + (1 : Int32)) → wc_X0_divideBy_79 B18 Q a1 v103 v104 a5 z102))))))
def wc_X0_divideBy_18 (Q : tq_O → tq_S → Prop) (a1 : Int32) (a2 : Int64) (a4 : Int32) (a5 : Int32) (z : tq_S) : Prop := tq_lp (σ := Int64 × Int32 × Int32 × tq_S) (fun B s => wb_X0_divideBy_18 (fun b2 b4 b5 z => B (b2, b4, b5, z)) Q a1 s.1 s.2.1 s.2.2.1 s.2.2.2) (a2, a4, a5, z)
theorem ab_X0_divideBy_18 {K : Nat × (Nat → Int32)} {x : Nat} {Q : tq_O → tq_S → Prop} {B18 : Int64 → Int32 → Int32 → tq_S → Prop} {a1 : Int32} {a2 : Int64} {a4 : Int32} {a5 : Int32} {z : tq_S} (hB18 : ∀ (b2 : Int64) (b4 : Int32) (b5 : Int32) (z : tq_S), B18 b2 b4 b5 z → tq_T K 0 x mm_X0_divideBy 18 [.ref 46, .int a1, .long b2, .null, .int b4, .int b5, .null, .null] [] z Q) (h : wb_X0_divideBy_18 B18 Q a1 a2 a4 a5 z) : tq_T K 0 x mm_X0_divideBy 18 [.ref 46, .int a1, .long a2, .null, .int a4, .int a5, .null, .null] [] z Q := by
  unfold wb_X0_divideBy_18 at h
  refine tq_s_iload (i := 5) (by decide +kernel) rfl ?_
  refine tq_if_lt (off := 65) (tgt := 85) (by decide +kernel) (by decide +kernel) (fun hc => ?_) (fun hc => ?_)
  · replace h := h.1 hc
    exact tq_to (tq_lk1 (tq_ld1 (tq_ld1 (tq_lk1 (tq_lk1 (tq_ld1 (tq_lk1 (tq_lk1 tq_l0)))))))) (ac_X0_divideBy_85 h)
  · replace h := h.2 hc
    refine tq_s_lload_n (kk := 2) (by decide +kernel) rfl ?_
    refine tq_s_ldc2 (i := 31) (v := (1000000000 : Int64)) (by decide +kernel) (by decide +kernel) ?_
    refine tq_s_lmul (by decide +kernel) ?_
    refine tq_s_aload_n (kk := 0) (by decide +kernel) rfl ?_
    refine fg_0_9_46 rfl (by decide +kernel) ?_
    refine tq_s_iload (i := 5) (by decide +kernel) rfl ?_
    refine tq_s_iald (by decide +kernel) sh_47 h.1 ?_
    replace h := h.2
    refine tq_s_i2l (by decide +kernel) ?_
    refine tq_s_ladd (by decide +kernel) ?_
    refine tq_g_lstore (i := 6) (fun v101 => [.ref 46, .int a1, .long a2, .null, .int a4, .int a5, .long v101, .null]) (by decide +kernel) (by decide) (fun _ => rfl) (fun v101 ev101 => ?_)
    replace h := h v101 ev101
    refine tq_s_aload_n (kk := 0) (by decide +kernel) rfl ?_
    refine fg_0_9_46 rfl (by decide +kernel) ?_
    refine tq_s_iload (i := 5) (by decide +kernel) rfl ?_
    refine tq_s_lload (i := 6) (by decide +kernel) rfl ?_
    refine tq_s_iload_n (kk := 1) (by decide +kernel) rfl ?_
    refine tq_s_i2l (by decide +kernel) ?_
    refine tq_s_ldiv (by decide +kernel) h.1 ?_
    replace h := h.2
    refine tq_s_l2i (by decide +kernel) ?_
    refine tq_g_iast (by decide +kernel) sh_47 h.1 (fun z102 ez102 => ?_)
    replace h := h.2 z102 ez102
    refine tq_s_lload (i := 6) (by decide +kernel) rfl ?_
    refine tq_s_iload_n (kk := 1) (by decide +kernel) rfl ?_
    refine tq_s_i2l (by decide +kernel) ?_
    refine tq_s_lrem (by decide +kernel) h.1 ?_
    replace h := h.2
    refine tq_g_lstore_n (kk := 2) (fun v103 => [.ref 46, .int a1, .long v103, .null, .int a4, .int a5, .long v101, .null]) (by decide +kernel) (by decide) (fun _ => rfl) (fun v103 ev103 => ?_)
    replace h := h v103 ev103
    refine tq_s_iload (i := 4) (by decide +kernel) rfl ?_
    refine tq_if_ne (off := 19) (tgt := 79) (by decide +kernel) (by decide +kernel) (fun hc => ?_) (fun hc => ?_)
    · replace h := h.1 hc
      exact tq_to (tq_lk1 (tq_lk1 (tq_lk1 (tq_lk1 (tq_lk1 (tq_lk1 (tq_ld1 (tq_lk1 tq_l0)))))))) (ac_X0_divideBy_79 hB18 h)
    · replace h := h.2 hc
      refine tq_s_aload_n (kk := 0) (by decide +kernel) rfl ?_
      refine fg_0_9_46 rfl (by decide +kernel) ?_
      refine tq_s_iload (i := 5) (by decide +kernel) rfl ?_
      refine tq_s_iald (by decide +kernel) sh_47 h.1 ?_
      replace h := h.2
      refine tq_if_eq (off := 9) (tgt := 79) (by decide +kernel) (by decide +kernel) (fun hc => ?_) (fun hc => ?_)
      · replace h := h.1 hc
        exact tq_to (tq_lk1 (tq_lk1 (tq_lk1 (tq_lk1 (tq_lk1 (tq_lk1 (tq_ld1 (tq_lk1 tq_l0)))))))) (ac_X0_divideBy_79 hB18 h)
      · replace h := h.2 hc
        refine tq_s_iload (i := 5) (by decide +kernel) rfl ?_
        refine tq_k_ic (n := 1) (v := (1 : Int32)) (by decide +kernel) kc_1 ?_
        refine tq_s_iadd (by decide +kernel) ?_
        refine tq_g_istore (i := 4) (fun v104 => [.ref 46, .int a1, .long v103, .null, .int v104, .int a5, .long v101, .null]) (by decide +kernel) (by decide) (fun _ => rfl) (fun v104 ev104 => ?_)
        replace h := h v104 ev104
        exact tq_to (tq_lk1 (tq_lk1 (tq_lk1 (tq_lk1 (tq_lk1 (tq_lk1 (tq_ld1 (tq_lk1 tq_l0)))))))) (ac_X0_divideBy_79 hB18 h)
theorem ac_X0_divideBy_18 {K : Nat × (Nat → Int32)} {x : Nat} {Q : tq_O → tq_S → Prop} {a1 : Int32} {a2 : Int64} {a4 : Int32} {a5 : Int32} {z : tq_S} (h : wc_X0_divideBy_18 Q a1 a2 a4 a5 z) : tq_T K 0 x mm_X0_divideBy 18 [.ref 46, .int a1, .long a2, .null, .int a4, .int a5, .null, .null] [] z Q :=
  tq_lp_T (σ := Int64 × Int32 × Int32 × tq_S) (s := (a2, a4, a5, z)) (G := fun s => tq_T K 0 x mm_X0_divideBy 18 [.ref 46, .int a1, .long s.1, .null, .int s.2.1, .int s.2.2.1, .null, .null] [] s.2.2.2 Q) (fun B hB s h => ab_X0_divideBy_18 (fun b2 b4 b5 z h => hB (b2, b4, b5, z) h) h) h
def wm_X0_divideBy (a1 : Int32) (z : tq_S) (Q : tq_O → tq_S → Prop) : Prop := ((0 < a1 → ∀ v1 : Int32, v1 = ((tq_fi z 2945) - (1 : Int32)) → wc_X0_divideBy_18 Q a1 (0 : Int64) (0 : Int32) v1 z) ∧ (¬ 0 < a1 → Q (.inl none) z))
theorem am_X0_divideBy {K : Nat × (Nat → Int32)} {x : Nat} {z : tq_S} {Q : tq_O → tq_S → Prop} {a1 : Int32} (h : wm_X0_divideBy a1 z Q) : tq_M K 0 x mm_X0_divideBy [.ref 46, .int a1] z Q := by
  unfold wm_X0_divideBy at h
  refine tq_enter (L := [.ref 46, .int a1, .null, .null, .null, .null, .null, .null]) mf_X0_divideBy.1 rfl rfl (Nat.le_of_ble_eq_true rfl) ?_
  refine tq_s_iload_n (kk := 1) (by decide +kernel) rfl ?_
  refine tq_if_gt (off := 4) (tgt := 5) (by decide +kernel) (by decide +kernel) (fun hc => ?_) (fun hc => ?_)
  · replace h := h.1 hc
    refine tq_k_lc (n := 0) (v := (0 : Int64)) (by decide +kernel) (by decide +kernel) ?_
    refine tq_s_lstore_n (kk := 2) (L9 := [.ref 46, .int a1, .long (0 : Int64), .null, .null, .null, .null, .null]) (by decide +kernel) (by decide) rfl ?_
    refine tq_k_ic (n := 0) (v := (0 : Int32)) (by decide +kernel) kc_0 ?_
    refine tq_s_istore (i := 4) (L9 := [.ref 46, .int a1, .long (0 : Int64), .null, .int (0 : Int32), .null, .null, .null]) (by decide +kernel) (by decide) rfl ?_
    refine tq_s_aload_n (kk := 0) (by decide +kernel) rfl ?_
    refine fg_0_13_46 rfl (by decide +kernel) ?_
    refine tq_k_ic (n := 1) (v := (1 : Int32)) (by decide +kernel) kc_1 ?_
    refine tq_s_isub (by decide +kernel) ?_
    refine tq_g_istore (i := 5) (fun v1 => [.ref 46, .int a1, .long (0 : Int64), .null, .int (0 : Int32), .int v1, .null, .null]) (by decide +kernel) (by decide) (fun _ => rfl) (fun v1 ev1 => ?_)
    replace h := h v1 ev1
    exact ac_X0_divideBy_18 h
  · replace h := h.2 hc
    exact tq_ret_v (st := []) (by decide +kernel) rfl h
def wc_X0_putHeaps_44 (B8 : Int32 → tq_S → Prop) (Q : tq_O → tq_S → Prop) (a1 : Int32) (a2 : Int32) (a3 : Int32) (a4 : Int32) (z : tq_S) : Prop := ∀ v101 : Int32, v101 = a4 + (1 : Int32) → B8 v101 z
theorem ac_X0_putHeaps_44 {K : Nat × (Nat → Int32)} {x : Nat} {Q : tq_O → tq_S → Prop} {B8 : Int32 → tq_S → Prop} {a1 : Int32} {a2 : Int32} {a3 : Int32} {a4 : Int32} {z : tq_S} (hB8 : ∀ (b4 : Int32) (z : tq_S), B8 b4 z → tq_T K 2 x mm_X0_putHeaps 8 [.ref 46, .int a1, .int a2, .int a3, .int b4, .null] [] z Q) (h : wc_X0_putHeaps_44 B8 Q a1 a2 a3 a4 z) : tq_T K 2 x mm_X0_putHeaps 44 [.ref 46, .int a1, .int a2, .int a3, .int a4, .null] [] z Q := by
  unfold wc_X0_putHeaps_44 at h
  refine tq_g_iinc (i := 4) (fun v101 => [.ref 46, .int a1, .int a2, .int a3, .int v101, .null]) (by decide +kernel) rfl (1 : Int32) kc_1 (fun _ => rfl) (fun v101 ev101 => ?_)
  replace h := h v101 ev101
  refine tq_s_goto (off := -39) (tgt := 8) (by decide +kernel) (by decide +kernel) ?_
  exact hB8 _ _ h
def wb_X0_putHeaps_17 (B8 : Int32 → tq_S → Prop) (B17 : Int32 → tq_S → Prop) (Q : tq_O → tq_S → Prop) (a1 : Int32) (a2 : Int32) (a3 : Int32) (a4 : Int32) (a5 : Int32) (z : tq_S) : Prop := ((a2 < a5 → wc_X0_putHeaps_44 B8 Q a1 a2 a3 a4 z) ∧ (¬ a2 < a5 → wm_X0_timesPlus (Int32.toInt64 (((a3 + a4) + a5) - (1 : Int32))) (0 : Int64) z (tq_wv fun z101 => ∀ v102 : Int32, v102 = a5 + (1 : Int32) → B17 v102 z101)))
def wc_X0_putHeaps_17 (B8 : Int32 → tq_S → Prop) (Q : tq_O → tq_S → Prop) (a1 : Int32) (a2 : Int32) (a3 : Int32) (a4 : Int32) (a5 : Int32) (z : tq_S) : Prop := tq_lp (σ := Int32 × tq_S) (fun B s => wb_X0_putHeaps_17 B8 (fun b5 z => B (b5, z)) Q a1 a2 a3 a4 s.1 s.2) (a5, z)
theorem ab_X0_putHeaps_17 {K : Nat × (Nat → Int32)} {x : Nat} {Q : tq_O → tq_S → Prop} {B8 : Int32 → tq_S → Prop} {B17 : Int32 → tq_S → Prop} {a1 : Int32} {a2 : Int32} {a3 : Int32} {a4 : Int32} {a5 : Int32} {z : tq_S} (hB8 : ∀ (b4 : Int32) (z : tq_S), B8 b4 z → tq_T K 2 x mm_X0_putHeaps 8 [.ref 46, .int a1, .int a2, .int a3, .int b4, .null] [] z Q) (hB17 : ∀ (b5 : Int32) (z : tq_S), B17 b5 z → tq_T K 2 x mm_X0_putHeaps 17 [.ref 46, .int a1, .int a2, .int a3, .int a4, .int b5] [] z Q) (h : wb_X0_putHeaps_17 B8 B17 Q a1 a2 a3 a4 a5 z) : tq_T K 2 x mm_X0_putHeaps 17 [.ref 46, .int a1, .int a2, .int a3, .int a4, .int a5] [] z Q := by
  unfold wb_X0_putHeaps_17 at h
  refine tq_s_iload (i := 5) (by decide +kernel) rfl ?_
  refine tq_s_iload_n (kk := 2) (by decide +kernel) rfl ?_
  refine tq_icmp_gt (off := 24) (tgt := 44) (by decide +kernel) (by decide +kernel) (fun hc => ?_) (fun hc => ?_)
  · replace h := h.1 hc
    exact tq_to (tq_lk1 (tq_lk1 (tq_lk1 (tq_lk1 (tq_lk1 (tq_ld1 tq_l0)))))) (ac_X0_putHeaps_44 hB8 h)
  · replace h := h.2 hc
    refine tq_s_aload_n (kk := 0) (by decide +kernel) rfl ?_
    refine tq_s_iload_n (kk := 3) (by decide +kernel) rfl ?_
    refine tq_s_iload (i := 4) (by decide +kernel) rfl ?_
    refine tq_s_iadd (by decide +kernel) ?_
    refine tq_s_iload (i := 5) (by decide +kernel) rfl ?_
    refine tq_s_iadd (by decide +kernel) ?_
    refine tq_k_ic (n := 1) (v := (1 : Int32)) (by decide +kernel) kc_1 ?_
    refine tq_s_isub (by decide +kernel) ?_
    refine tq_s_i2l (by decide +kernel) ?_
    refine tq_k_lc (n := 0) (v := (0 : Int64)) (by decide +kernel) (by decide +kernel) ?_
    refine tq_callV (as := [.long (Int32.toInt64 (((a3 + a4) + a5) - (1 : Int32))), .long (0 : Int64)]) (st := []) (d1 := 1) (x1 := 0) (x2 := x) (by decide +kernel) ln_0_36 mf_X0_timesPlus rfl sh_46 rfl (by decide) np_X0_timesPlus rfl (Nat.le_of_ble_eq_true rfl) (by decide) (Nat.zero_add _).symm (tq_M_mono (am_X0_timesPlus h) ?_)
    refine tq_wv_e (fun z101 h => ?_)
    refine tq_g_iinc (i := 5) (fun v102 => [.ref 46, .int a1, .int a2, .int a3, .int a4, .int v102]) (by decide +kernel) rfl (1 : Int32) kc_1 (fun _ => rfl) (fun v102 ev102 => ?_)
    replace h := h v102 ev102
    refine tq_s_goto (off := -24) (tgt := 17) (by decide +kernel) (by decide +kernel) ?_
    exact hB17 _ _ h
theorem ac_X0_putHeaps_17 {K : Nat × (Nat → Int32)} {x : Nat} {Q : tq_O → tq_S → Prop} {B8 : Int32 → tq_S → Prop} {a1 : Int32} {a2 : Int32} {a3 : Int32} {a4 : Int32} {a5 : Int32} {z : tq_S} (hB8 : ∀ (b4 : Int32) (z : tq_S), B8 b4 z → tq_T K 2 x mm_X0_putHeaps 8 [.ref 46, .int a1, .int a2, .int a3, .int b4, .null] [] z Q) (h : wc_X0_putHeaps_17 B8 Q a1 a2 a3 a4 a5 z) : tq_T K 2 x mm_X0_putHeaps 17 [.ref 46, .int a1, .int a2, .int a3, .int a4, .int a5] [] z Q :=
  tq_lp_T (σ := Int32 × tq_S) (s := (a5, z)) (G := fun s => tq_T K 2 x mm_X0_putHeaps 17 [.ref 46, .int a1, .int a2, .int a3, .int a4, .int s.1] [] s.2 Q) (fun B hB s h => ab_X0_putHeaps_17 hB8 (fun b5 z h => hB (b5, z) h) h) h
def wc_X0_putHeaps_85 (B53 : Int32 → tq_S → Prop) (Q : tq_O → tq_S → Prop) (a1 : Int32) (a2 : Int32) (a4 : Int32) (z : tq_S) : Prop := ∀ v101 : Int32, v101 = a4 + (1 : Int32) → B53 v101 z
theorem ac_X0_putHeaps_85 {K : Nat × (Nat → Int32)} {x : Nat} {Q : tq_O → tq_S → Prop} {B53 : Int32 → tq_S → Prop} {a1 : Int32} {a2 : Int32} {a4 : Int32} {z : tq_S} (hB53 : ∀ (b4 : Int32) (z : tq_S), B53 b4 z → tq_T K 2 x mm_X0_putHeaps 53 [.ref 46, .int a1, .int a2, .null, .int b4, .null] [] z Q) (h : wc_X0_putHeaps_85 B53 Q a1 a2 a4 z) : tq_T K 2 x mm_X0_putHeaps 85 [.ref 46, .int a1, .int a2, .null, .int a4, .null] [] z Q := by
  unfold wc_X0_putHeaps_85 at h
  refine tq_g_iinc (i := 4) (fun v101 => [.ref 46, .int a1, .int a2, .null, .int v101, .null]) (by decide +kernel) rfl (1 : Int32) kc_1 (fun _ => rfl) (fun v101 ev101 => ?_)
  replace h := h v101 ev101
  refine tq_s_goto (off := -35) (tgt := 53) (by decide +kernel) (by decide +kernel) ?_
  exact hB53 _ _ h
def wb_X0_putHeaps_62 (B53 : Int32 → tq_S → Prop) (B62 : Int32 → tq_S → Prop) (Q : tq_O → tq_S → Prop) (a1 : Int32) (a2 : Int32) (a4 : Int32) (a5 : Int32) (z : tq_S) : Prop := ((a2 < a5 → wc_X0_putHeaps_85 B53 Q a1 a2 a4 z) ∧ (¬ a2 < a5 → wm_X0_divideBy ((a4 + a5) - (1 : Int32)) z (tq_wv fun z101 => ∀ v102 : Int32, v102 = a5 + (1 : Int32) → B62 v102 z101)))
def wc_X0_putHeaps_62 (B53 : Int32 → tq_S → Prop) (Q : tq_O → tq_S → Prop) (a1 : Int32) (a2 : Int32) (a4 : Int32) (a5 : Int32) (z : tq_S) : Prop := tq_lp (σ := Int32 × tq_S) (fun B s => wb_X0_putHeaps_62 B53 (fun b5 z => B (b5, z)) Q a1 a2 a4 s.1 s.2) (a5, z)
theorem ab_X0_putHeaps_62 {K : Nat × (Nat → Int32)} {x : Nat} {Q : tq_O → tq_S → Prop} {B53 : Int32 → tq_S → Prop} {B62 : Int32 → tq_S → Prop} {a1 : Int32} {a2 : Int32} {a4 : Int32} {a5 : Int32} {z : tq_S} (hB53 : ∀ (b4 : Int32) (z : tq_S), B53 b4 z → tq_T K 2 x mm_X0_putHeaps 53 [.ref 46, .int a1, .int a2, .null, .int b4, .null] [] z Q) (hB62 : ∀ (b5 : Int32) (z : tq_S), B62 b5 z → tq_T K 2 x mm_X0_putHeaps 62 [.ref 46, .int a1, .int a2, .null, .int a4, .int b5] [] z Q) (h : wb_X0_putHeaps_62 B53 B62 Q a1 a2 a4 a5 z) : tq_T K 2 x mm_X0_putHeaps 62 [.ref 46, .int a1, .int a2, .null, .int a4, .int a5] [] z Q := by
  unfold wb_X0_putHeaps_62 at h
  refine tq_s_iload (i := 5) (by decide +kernel) rfl ?_
  refine tq_s_iload_n (kk := 2) (by decide +kernel) rfl ?_
  refine tq_icmp_gt (off := 20) (tgt := 85) (by decide +kernel) (by decide +kernel) (fun hc => ?_) (fun hc => ?_)
  · replace h := h.1 hc
    exact tq_to (tq_lk1 (tq_lk1 (tq_lk1 (tq_lk1 (tq_lk1 (tq_ld1 tq_l0)))))) (ac_X0_putHeaps_85 hB53 h)
  · replace h := h.2 hc
    refine tq_s_aload_n (kk := 0) (by decide +kernel) rfl ?_
    refine tq_s_iload (i := 4) (by decide +kernel) rfl ?_
    refine tq_s_iload (i := 5) (by decide +kernel) rfl ?_
    refine tq_s_iadd (by decide +kernel) ?_
    refine tq_k_ic (n := 1) (v := (1 : Int32)) (by decide +kernel) kc_1 ?_
    refine tq_s_isub (by decide +kernel) ?_
    refine tq_callV (as := [.int ((a4 + a5) - (1 : Int32))]) (st := []) (d1 := 0) (x1 := 0) (x2 := x) (by decide +kernel) ln_0_40 mf_X0_divideBy rfl sh_46 rfl (by decide) np_X0_divideBy rfl (Nat.le_of_ble_eq_true rfl) (by decide) (Nat.zero_add _).symm (tq_M_mono (am_X0_divideBy h) ?_)
    refine tq_wv_e (fun z101 h => ?_)
    refine tq_g_iinc (i := 5) (fun v102 => [.ref 46, .int a1, .int a2, .null, .int a4, .int v102]) (by decide +kernel) rfl (1 : Int32) kc_1 (fun _ => rfl) (fun v102 ev102 => ?_)
    replace h := h v102 ev102
    refine tq_s_goto (off := -20) (tgt := 62) (by decide +kernel) (by decide +kernel) ?_
    exact hB62 _ _ h
theorem ac_X0_putHeaps_62 {K : Nat × (Nat → Int32)} {x : Nat} {Q : tq_O → tq_S → Prop} {B53 : Int32 → tq_S → Prop} {a1 : Int32} {a2 : Int32} {a4 : Int32} {a5 : Int32} {z : tq_S} (hB53 : ∀ (b4 : Int32) (z : tq_S), B53 b4 z → tq_T K 2 x mm_X0_putHeaps 53 [.ref 46, .int a1, .int a2, .null, .int b4, .null] [] z Q) (h : wc_X0_putHeaps_62 B53 Q a1 a2 a4 a5 z) : tq_T K 2 x mm_X0_putHeaps 62 [.ref 46, .int a1, .int a2, .null, .int a4, .int a5] [] z Q :=
  tq_lp_T (σ := Int32 × tq_S) (s := (a5, z)) (G := fun s => tq_T K 2 x mm_X0_putHeaps 62 [.ref 46, .int a1, .int a2, .null, .int a4, .int s.1] [] s.2 Q) (fun B hB s h => ab_X0_putHeaps_62 hB53 (fun b5 z h => hB (b5, z) h) h) h
def wb_X0_putHeaps_53 (B53 : Int32 → tq_S → Prop) (Q : tq_O → tq_S → Prop) (a1 : Int32) (a2 : Int32) (a4 : Int32) (z : tq_S) : Prop := ((a1 < a4 → Q (.inl none) z) ∧ (¬ a1 < a4 → wc_X0_putHeaps_62 B53 Q a1 a2 a4 (1 : Int32) z))
def wc_X0_putHeaps_53 (Q : tq_O → tq_S → Prop) (a1 : Int32) (a2 : Int32) (a4 : Int32) (z : tq_S) : Prop := tq_lp (σ := Int32 × tq_S) (fun B s => wb_X0_putHeaps_53 (fun b4 z => B (b4, z)) Q a1 a2 s.1 s.2) (a4, z)
theorem ab_X0_putHeaps_53 {K : Nat × (Nat → Int32)} {x : Nat} {Q : tq_O → tq_S → Prop} {B53 : Int32 → tq_S → Prop} {a1 : Int32} {a2 : Int32} {a4 : Int32} {z : tq_S} (hB53 : ∀ (b4 : Int32) (z : tq_S), B53 b4 z → tq_T K 2 x mm_X0_putHeaps 53 [.ref 46, .int a1, .int a2, .null, .int b4, .null] [] z Q) (h : wb_X0_putHeaps_53 B53 Q a1 a2 a4 z) : tq_T K 2 x mm_X0_putHeaps 53 [.ref 46, .int a1, .int a2, .null, .int a4, .null] [] z Q := by
  unfold wb_X0_putHeaps_53 at h
  refine tq_s_iload (i := 4) (by decide +kernel) rfl ?_
  refine tq_s_iload_n (kk := 1) (by decide +kernel) rfl ?_
  refine tq_icmp_gt (off := 35) (tgt := 91) (by decide +kernel) (by decide +kernel) (fun hc => ?_) (fun hc => ?_)
  · replace h := h.1 hc
    exact tq_ret_v (st := []) (by decide +kernel) rfl h
  · replace h := h.2 hc
    refine tq_k_ic (n := 1) (v := (1 : Int32)) (by decide +kernel) kc_1 ?_
    refine tq_s_istore (i := 5) (L9 := [.ref 46, .int a1, .int a2, .null, .int a4, .int (1 : Int32)]) (by decide +kernel) (by decide) rfl ?_
    exact ac_X0_putHeaps_62 hB53 h
theorem ac_X0_putHeaps_53 {K : Nat × (Nat → Int32)} {x : Nat} {Q : tq_O → tq_S → Prop} {a1 : Int32} {a2 : Int32} {a4 : Int32} {z : tq_S} (h : wc_X0_putHeaps_53 Q a1 a2 a4 z) : tq_T K 2 x mm_X0_putHeaps 53 [.ref 46, .int a1, .int a2, .null, .int a4, .null] [] z Q :=
  tq_lp_T (σ := Int32 × tq_S) (s := (a4, z)) (G := fun s => tq_T K 2 x mm_X0_putHeaps 53 [.ref 46, .int a1, .int a2, .null, .int s.1, .null] [] s.2 Q) (fun B hB s h => ab_X0_putHeaps_53 (fun b4 z h => hB (b4, z) h) h) h
def wc_X0_putHeaps_50 (Q : tq_O → tq_S → Prop) (a1 : Int32) (a2 : Int32) (z : tq_S) : Prop := wc_X0_putHeaps_53 Q a1 a2 (1 : Int32) z
theorem ac_X0_putHeaps_50 {K : Nat × (Nat → Int32)} {x : Nat} {Q : tq_O → tq_S → Prop} {a1 : Int32} {a2 : Int32} {z : tq_S} (h : wc_X0_putHeaps_50 Q a1 a2 z) : tq_T K 2 x mm_X0_putHeaps 50 [.ref 46, .int a1, .int a2, .null, .null, .null] [] z Q := by
  unfold wc_X0_putHeaps_50 at h
  refine tq_k_ic (n := 1) (v := (1 : Int32)) (by decide +kernel) kc_1 ?_
  refine tq_s_istore (i := 4) (L9 := [.ref 46, .int a1, .int a2, .null, .int (1 : Int32), .null]) (by decide +kernel) (by decide) rfl ?_
  exact ac_X0_putHeaps_53 h
def wb_X0_putHeaps_8 (B8 : Int32 → tq_S → Prop) (Q : tq_O → tq_S → Prop) (a1 : Int32) (a2 : Int32) (a3 : Int32) (a4 : Int32) (z : tq_S) : Prop := ((a1 < a4 → wc_X0_putHeaps_50 Q a1 a2 z) ∧ (¬ a1 < a4 → wc_X0_putHeaps_17 B8 Q a1 a2 a3 a4 (1 : Int32) z))
def wc_X0_putHeaps_8 (Q : tq_O → tq_S → Prop) (a1 : Int32) (a2 : Int32) (a3 : Int32) (a4 : Int32) (z : tq_S) : Prop := tq_lp (σ := Int32 × tq_S) (fun B s => wb_X0_putHeaps_8 (fun b4 z => B (b4, z)) Q a1 a2 a3 s.1 s.2) (a4, z)
theorem ab_X0_putHeaps_8 {K : Nat × (Nat → Int32)} {x : Nat} {Q : tq_O → tq_S → Prop} {B8 : Int32 → tq_S → Prop} {a1 : Int32} {a2 : Int32} {a3 : Int32} {a4 : Int32} {z : tq_S} (hB8 : ∀ (b4 : Int32) (z : tq_S), B8 b4 z → tq_T K 2 x mm_X0_putHeaps 8 [.ref 46, .int a1, .int a2, .int a3, .int b4, .null] [] z Q) (h : wb_X0_putHeaps_8 B8 Q a1 a2 a3 a4 z) : tq_T K 2 x mm_X0_putHeaps 8 [.ref 46, .int a1, .int a2, .int a3, .int a4, .null] [] z Q := by
  unfold wb_X0_putHeaps_8 at h
  refine tq_s_iload (i := 4) (by decide +kernel) rfl ?_
  refine tq_s_iload_n (kk := 1) (by decide +kernel) rfl ?_
  refine tq_icmp_gt (off := 39) (tgt := 50) (by decide +kernel) (by decide +kernel) (fun hc => ?_) (fun hc => ?_)
  · replace h := h.1 hc
    exact tq_to (tq_lk1 (tq_lk1 (tq_lk1 (tq_ld1 (tq_ld1 (tq_lk1 tq_l0)))))) (ac_X0_putHeaps_50 h)
  · replace h := h.2 hc
    refine tq_k_ic (n := 1) (v := (1 : Int32)) (by decide +kernel) kc_1 ?_
    refine tq_s_istore (i := 5) (L9 := [.ref 46, .int a1, .int a2, .int a3, .int a4, .int (1 : Int32)]) (by decide +kernel) (by decide) rfl ?_
    exact ac_X0_putHeaps_17 hB8 h
theorem ac_X0_putHeaps_8 {K : Nat × (Nat → Int32)} {x : Nat} {Q : tq_O → tq_S → Prop} {a1 : Int32} {a2 : Int32} {a3 : Int32} {a4 : Int32} {z : tq_S} (h : wc_X0_putHeaps_8 Q a1 a2 a3 a4 z) : tq_T K 2 x mm_X0_putHeaps 8 [.ref 46, .int a1, .int a2, .int a3, .int a4, .null] [] z Q :=
  tq_lp_T (σ := Int32 × tq_S) (s := (a4, z)) (G := fun s => tq_T K 2 x mm_X0_putHeaps 8 [.ref 46, .int a1, .int a2, .int a3, .int s.1, .null] [] s.2 Q) (fun B hB s h => ab_X0_putHeaps_8 (fun b4 z h => hB (b4, z) h) h) h
def wm_X0_putHeaps (a1 : Int32) (a2 : Int32) (a3 : Int32) (z : tq_S) (Q : tq_O → tq_S → Prop) : Prop := wm_X0_put (1 : Int64) z (tq_wv fun z1 => wc_X0_putHeaps_8 Q a1 a2 a3 (1 : Int32) z1)
theorem am_X0_putHeaps {K : Nat × (Nat → Int32)} {x : Nat} {z : tq_S} {Q : tq_O → tq_S → Prop} {a1 : Int32} {a2 : Int32} {a3 : Int32} (h : wm_X0_putHeaps a1 a2 a3 z Q) : tq_M K 2 x mm_X0_putHeaps [.ref 46, .int a1, .int a2, .int a3] z Q := by
  unfold wm_X0_putHeaps at h
  refine tq_enter (L := [.ref 46, .int a1, .int a2, .int a3, .null, .null]) mf_X0_putHeaps.1 rfl rfl (Nat.le_of_ble_eq_true rfl) ?_
  refine tq_s_aload_n (kk := 0) (by decide +kernel) rfl ?_
  refine tq_k_lc (n := 1) (v := (1 : Int64)) (by decide +kernel) (by decide +kernel) ?_
  refine tq_callV (as := [.long (1 : Int64)]) (st := []) (d1 := 1) (x1 := 0) (x2 := x) (by decide +kernel) ln_0_33 mf_X0_put rfl sh_46 rfl (by decide) np_X0_put rfl (Nat.le_of_ble_eq_true rfl) (by decide) (Nat.zero_add _).symm (tq_M_mono (am_X0_put h) ?_)
  refine tq_wv_e (fun z1 h => ?_)
  refine tq_k_ic (n := 1) (v := (1 : Int32)) (by decide +kernel) kc_1 ?_
  refine tq_s_istore (i := 4) (L9 := [.ref 46, .int a1, .int a2, .int a3, .int (1 : Int32), .null]) (by decide +kernel) (by decide) rfl ?_
  exact ac_X0_putHeaps_8 h
def wm_X11_heaps (a1 : Int32) (a2 : Int32) (a3 : Int32) (z : tq_S) (Q : tq_O → tq_S → Prop) : Prop := wm_X11_areSides a1 a2 a3 z (tq_wi fun r2 z1 => ((¬ r2 = 0 → wm_X0_putHeaps a1 a2 a3 z1 (tq_wv fun z3 => wm_X11_sayAnswer z3 (tq_wi fun r5 z4 => Q (.inl (some (.int r5))) z4))) ∧ (r2 = 0 → Q (.inr 1) z1)))
theorem am_X11_heaps {K : Nat × (Nat → Int32)} {z : tq_S} {Q : tq_O → tq_S → Prop} {a1 : Int32} {a2 : Int32} {a3 : Int32} (h : wm_X11_heaps a1 a2 a3 z Q) : tq_M K 3 1 mm_X11_heaps [.ref 0, .int a1, .int a2, .int a3] z Q := by
  unfold wm_X11_heaps at h
  refine tq_enter (L := [.ref 0, .int a1, .int a2, .int a3]) mf_X11_heaps.1 rfl rfl (Nat.le_of_ble_eq_true rfl) ?_
  refine tq_s_iload_n (kk := 1) (by decide +kernel) rfl ?_
  refine tq_s_iload_n (kk := 2) (by decide +kernel) rfl ?_
  refine tq_s_iload_n (kk := 3) (by decide +kernel) rfl ?_
  refine tq_callS (as := [.int a1, .int a2, .int a3]) (st := []) (d1 := 1) (x1 := 0) (x2 := 1) (by decide +kernel) ln_11_407 mf_X11_areSides rfl (by decide) np_X11_areSides rfl (Nat.le_of_ble_eq_true rfl) (by decide) (Nat.zero_add _).symm (tq_M_mono (am_X11_areSides h) ?_)
  refine tq_wi_e (fun r2 z1 h => ?_)
  refine tq_if_ne (off := 14) (tgt := 20) (by decide +kernel) (by decide +kernel) (fun hc => ?_) (fun hc => ?_)
  · replace h := h.1 hc
    refine tq_s_aload_n (kk := 0) (by decide +kernel) rfl ?_
    refine fg_11_86_0 rfl (by decide +kernel) ?_
    refine tq_s_iload_n (kk := 1) (by decide +kernel) rfl ?_
    refine tq_s_iload_n (kk := 2) (by decide +kernel) rfl ?_
    refine tq_s_iload_n (kk := 3) (by decide +kernel) rfl ?_
    refine tq_callVN (as := [.int a1, .int a2, .int a3]) (st := []) (d1 := 2) (x1 := 0) (x2 := 1) (by decide +kernel) ln_11_416 mf_X0_putHeaps rfl sh_46 rfl (by decide) np_X0_putHeaps rfl (Nat.le_of_ble_eq_true rfl) (by decide) (Nat.zero_add _).symm (tq_M_mono (am_X0_putHeaps h) ?_)
    refine tq_wv_e (fun z3 h => ?_)
    refine tq_s_aload_n (kk := 0) (by decide +kernel) rfl ?_
    refine tq_callV (as := []) (st := []) (d1 := 2) (x1 := 0) (x2 := 1) (by decide +kernel) ln_11_394 mf_X11_sayAnswer rfl sh_0 rfl (by decide) np_X11_sayAnswer rfl (Nat.le_of_ble_eq_true rfl) (by decide) (Nat.zero_add _).symm (tq_M_mono (am_X11_sayAnswer h) ?_)
    refine tq_wi_e (fun r5 z4 h => ?_)
    exact tq_ret_i (st := []) (by decide +kernel) rfl h
  · replace h := h.2 hc
    exact tq_throwSW th_11_105_410 rfl (by decide +kernel) (by decide +kernel) (by decide +kernel) (by decide +kernel) (by decide +kernel) (Nat.le_of_ble_eq_true rfl) rfl (Nat.le_refl 1) h
def wm_X11_countsAgree  (z : tq_S) (Q : tq_O → tq_S → Prop) : Prop := wm_X1_isPlain z (tq_wi fun r2 z1 => ((r2 = 0 → Q (.inl (some (.int (1 : Int32)))) z1) ∧ (¬ r2 = 0 → wm_X5_total z1 (tq_wl fun r4 z3 => wm_X3_countCovers z3 (tq_wl fun r6 z5 => ((¬ r4 = r6 → Q (.inl (some (.int (0 : Int32)))) z5) ∧ (r4 = r6 → Q (.inl (some (.int (1 : Int32)))) z5)))))))
theorem am_X11_countsAgree {K : Nat × (Nat → Int32)} {x : Nat} {z : tq_S} {Q : tq_O → tq_S → Prop}  (h : wm_X11_countsAgree z Q) : tq_M K 5 x mm_X11_countsAgree [.ref 0] z Q := by
  unfold wm_X11_countsAgree at h
  refine tq_enter (L := [.ref 0]) mf_X11_countsAgree.1 rfl rfl (Nat.le_of_ble_eq_true rfl) ?_
  refine tq_s_aload_n (kk := 0) (by decide +kernel) rfl ?_
  refine fg_11_10_0 rfl (by decide +kernel) ?_
  refine tq_callVN (as := []) (st := []) (d1 := 4) (x1 := 0) (x2 := x) (by decide +kernel) ln_11_199 mf_X1_isPlain rfl sh_1 rfl (by decide) np_X1_isPlain rfl (Nat.le_of_ble_eq_true rfl) (by decide) (Nat.zero_add _).symm (tq_M_mono (am_X1_isPlain h) ?_)
  refine tq_wi_e (fun r2 z1 h => ?_)
  refine tq_if_eq (off := 25) (tgt := 32) (by decide +kernel) (by decide +kernel) (fun hc => ?_) (fun hc => ?_)
  · replace h := h.1 hc
    refine tq_k_ic (n := 1) (v := (1 : Int32)) (by decide +kernel) kc_1 ?_
    refine tq_s_goto (off := 4) (tgt := 37) (by decide +kernel) (by decide +kernel) ?_
    exact tq_ret_z (st := []) (ty := .boolean) (by decide +kernel) (by decide +kernel) rfl h
  · replace h := h.2 hc
    refine tq_s_aload_n (kk := 0) (by decide +kernel) rfl ?_
    refine fg_11_21_0 rfl (by decide +kernel) ?_
    refine tq_callVN (as := []) (st := []) (d1 := 3) (x1 := 0) (x2 := x) (by decide +kernel) ln_11_192 mf_X5_total rfl sh_2 rfl (by decide) np_X5_total rfl (Nat.le_of_ble_eq_true rfl) (by decide) (Nat.zero_add _).symm (tq_M_mono (am_X5_total h) ?_)
    refine tq_wl_e (fun r4 z3 h => ?_)
    refine tq_s_aload_n (kk := 0) (by decide +kernel) rfl ?_
    refine fg_11_42_0 rfl (by decide +kernel) ?_
    refine tq_s_aload_n (kk := 0) (by decide +kernel) rfl ?_
    refine fg_11_10_0 rfl (by decide +kernel) ?_
    refine tq_callVN (as := [.ref 1]) (st := [.long r4]) (d1 := 3) (x1 := 0) (x2 := x) (by decide +kernel) ln_11_204 mf_X3_countCovers rfl sh_16 rfl (by decide) np_X3_countCovers rfl (Nat.le_of_ble_eq_true rfl) (by decide) (Nat.zero_add _).symm (tq_M_mono (am_X3_countCovers h) ?_)
    refine tq_wl_e (fun r6 z5 h => ?_)
    refine tq_lcmp_ne (off := 7) (tgt := 36) (by decide +kernel) (by decide +kernel) (by decide +kernel) (fun hc => ?_) (fun hc => ?_)
    · replace h := h.1 hc
      refine tq_k_ic (n := 0) (v := (0 : Int32)) (by decide +kernel) kc_0 ?_
      exact tq_ret_z (st := []) (ty := .boolean) (by decide +kernel) (by decide +kernel) rfl h
    · replace h := h.2 hc
      refine tq_k_ic (n := 1) (v := (1 : Int32)) (by decide +kernel) kc_1 ?_
      refine tq_s_goto (off := 4) (tgt := 37) (by decide +kernel) (by decide +kernel) ?_
      exact tq_ret_z (st := []) (ty := .boolean) (by decide +kernel) (by decide +kernel) rfl h
def wc_X11_numberIsSound_91 (Q : tq_O → tq_S → Prop) (a1 : Int64) (a3 : Int64) (s0 : Int32) (z : tq_S) : Prop := (((a3 + (1 : Int64)) < a1 → wm_X5_make (a3 + (1 : Int64)) z (tq_wv fun z101 => ((s0 = 0 → Q (.inl (some (.int (0 : Int32)))) z101) ∧ (¬ s0 = 0 → wm_X5_rank (tq_fl z101 136) (tq_fl z101 137) z101 (tq_wl fun r103 z102 => ((¬ r103 = (a3 + (1 : Int64)) → Q (.inl (some (.int (0 : Int32)))) z102) ∧ (r103 = (a3 + (1 : Int64)) → Q (.inl (some (.int (1 : Int32)))) z102))))))) ∧ (¬ (a3 + (1 : Int64)) < a1 → tq_nz s0 ∧ Q (.inl (some (.int s0))) z))
theorem ac_X11_numberIsSound_91 {K : Nat × (Nat → Int32)} {x : Nat} {Q : tq_O → tq_S → Prop} {a1 : Int64} {a3 : Int64} {s0 : Int32} {z : tq_S} (h : wc_X11_numberIsSound_91 Q a1 a3 s0 z) : tq_T K 4 x mm_X11_numberIsSound 91 [.ref 0, .long a1, .null, .long a3, .null, .null] [.int s0] z Q := by
  unfold wc_X11_numberIsSound_91 at h
  refine tq_s_istore (i := 5) (L9 := [.ref 0, .long a1, .null, .long a3, .null, .int s0]) (by decide +kernel) (by decide) rfl ?_
  refine tq_s_lload_n (kk := 3) (by decide +kernel) rfl ?_
  refine tq_k_lc (n := 1) (v := (1 : Int64)) (by decide +kernel) (by decide +kernel) ?_
  refine tq_s_ladd (by decide +kernel) ?_
  refine tq_s_lload_n (kk := 1) (by decide +kernel) rfl ?_
  refine tq_lcmp_lt (off := 6) (tgt := 104) (by decide +kernel) (by decide +kernel) (by decide +kernel) (fun hc => ?_) (fun hc => ?_)
  · replace h := h.1 hc
    refine tq_s_aload_n (kk := 0) (by decide +kernel) rfl ?_
    refine fg_11_21_0 rfl (by decide +kernel) ?_
    refine tq_s_lload_n (kk := 3) (by decide +kernel) rfl ?_
    refine tq_k_lc (n := 1) (v := (1 : Int64)) (by decide +kernel) (by decide +kernel) ?_
    refine tq_s_ladd (by decide +kernel) ?_
    refine tq_callVN (as := [.long (a3 + (1 : Int64))]) (st := []) (d1 := 3) (x1 := 0) (x2 := x) (by decide +kernel) ln_11_474 mf_X5_make rfl sh_2 rfl (by decide) np_X5_make rfl (Nat.le_of_ble_eq_true rfl) (by decide) (Nat.zero_add _).symm (tq_M_mono (am_X5_make h) ?_)
    refine tq_wv_e (fun z101 h => ?_)
    refine tq_s_iload (i := 5) (by decide +kernel) rfl ?_
    refine tq_if_eq (off := 35) (tgt := 151) (by decide +kernel) (by decide +kernel) (fun hc => ?_) (fun hc => ?_)
    · replace h := h.1 hc
      refine tq_k_ic (n := 0) (v := (0 : Int32)) (by decide +kernel) kc_0 ?_
      exact tq_ret_z (st := []) (ty := .boolean) (by decide +kernel) (by decide +kernel) rfl h
    · replace h := h.2 hc
      refine tq_s_aload_n (kk := 0) (by decide +kernel) rfl ?_
      refine fg_11_21_0 rfl (by decide +kernel) ?_
      refine tq_s_aload_n (kk := 0) (by decide +kernel) rfl ?_
      refine fg_11_21_0 rfl (by decide +kernel) ?_
      refine fg_11_477_2 rfl (by decide +kernel) ?_
      refine tq_s_aload_n (kk := 0) (by decide +kernel) rfl ?_
      refine fg_11_21_0 rfl (by decide +kernel) ?_
      refine fg_11_480_2 rfl (by decide +kernel) ?_
      refine tq_callVN (as := [.long (tq_fl z101 136), .long (tq_fl z101 137)]) (st := []) (d1 := 3) (x1 := 0) (x2 := x) (by decide +kernel) ln_11_249 mf_X5_rank rfl sh_2 rfl (by decide) np_X5_rank rfl (Nat.le_of_ble_eq_true rfl) (by decide) (Nat.zero_add _).symm (tq_M_mono (am_X5_rank h) ?_)
      refine tq_wl_e (fun r103 z102 h => ?_)
      refine tq_s_lload_n (kk := 3) (by decide +kernel) rfl ?_
      refine tq_k_lc (n := 1) (v := (1 : Int64)) (by decide +kernel) (by decide +kernel) ?_
      refine tq_s_ladd (by decide +kernel) ?_
      refine tq_lcmp_ne (off := 7) (tgt := 151) (by decide +kernel) (by decide +kernel) (by decide +kernel) (fun hc => ?_) (fun hc => ?_)
      · replace h := h.1 hc
        refine tq_k_ic (n := 0) (v := (0 : Int32)) (by decide +kernel) kc_0 ?_
        exact tq_ret_z (st := []) (ty := .boolean) (by decide +kernel) (by decide +kernel) rfl h
      · replace h := h.2 hc
        refine tq_k_ic (n := 1) (v := (1 : Int32)) (by decide +kernel) kc_1 ?_
        refine tq_s_goto (off := 4) (tgt := 152) (by decide +kernel) (by decide +kernel) ?_
        exact tq_ret_z (st := []) (ty := .boolean) (by decide +kernel) (by decide +kernel) rfl h
  · replace h := h.2 hc
    refine tq_s_iload (i := 5) (by decide +kernel) rfl ?_
    exact tq_ret_z (st := []) (ty := .boolean) (by decide +kernel) (tq_nz_f h.1).1 rfl h.2
def wc_X11_numberIsSound_90 (Q : tq_O → tq_S → Prop) (a1 : Int64) (a3 : Int64) (z : tq_S) : Prop := wc_X11_numberIsSound_91 Q a1 a3 (0 : Int32) z
theorem ac_X11_numberIsSound_90 {K : Nat × (Nat → Int32)} {x : Nat} {Q : tq_O → tq_S → Prop} {a1 : Int64} {a3 : Int64} {z : tq_S} (h : wc_X11_numberIsSound_90 Q a1 a3 z) : tq_T K 4 x mm_X11_numberIsSound 90 [.ref 0, .long a1, .null, .long a3, .null, .null] [] z Q := by
  unfold wc_X11_numberIsSound_90 at h
  refine tq_k_ic (n := 0) (v := (0 : Int32)) (by decide +kernel) kc_0 ?_
  exact ac_X11_numberIsSound_91 h
def wm_X11_numberIsSound  (z : tq_S) (Q : tq_O → tq_S → Prop) : Prop := ((¬ (tq_fi z 516) = 0 → wm_X5_total z (tq_wl fun r2 z1 => wm_X5_rank (tq_fl z1 517) (tq_fl z1 518) z1 (tq_wl fun r4 z3 => wm_X5_make r4 z3 (tq_wv fun z5 => ((¬ (tq_fl z5 136) = (tq_fl z5 517) → wc_X11_numberIsSound_90 Q r2 r4 z5) ∧ ((tq_fl z5 136) = (tq_fl z5 517) → ((¬ (tq_fl z5 137) = (tq_fl z5 518) → wc_X11_numberIsSound_90 Q r2 r4 z5) ∧ ((tq_fl z5 137) = (tq_fl z5 518) → wc_X11_numberIsSound_91 Q r2 r4 (1 : Int32) z5)))))))) ∧ ((tq_fi z 516) = 0 → Q (.inl (some (.int (1 : Int32)))) z))
theorem am_X11_numberIsSound {K : Nat × (Nat → Int32)} {x : Nat} {z : tq_S} {Q : tq_O → tq_S → Prop}  (h : wm_X11_numberIsSound z Q) : tq_M K 4 x mm_X11_numberIsSound [.ref 0] z Q := by
  unfold wm_X11_numberIsSound at h
  refine tq_enter (L := [.ref 0, .null, .null, .null, .null, .null]) mf_X11_numberIsSound.1 rfl rfl (Nat.le_of_ble_eq_true rfl) ?_
  refine tq_s_aload_n (kk := 0) (by decide +kernel) rfl ?_
  refine fg_11_28_0 rfl (by decide +kernel) ?_
  refine fg_11_238_8 rfl (by decide +kernel) ?_
  refine tq_if_ne (off := 5) (tgt := 12) (by decide +kernel) (by decide +kernel) (fun hc => ?_) (fun hc => ?_)
  · replace h := h.1 hc
    refine tq_s_aload_n (kk := 0) (by decide +kernel) rfl ?_
    refine fg_11_21_0 rfl (by decide +kernel) ?_
    refine tq_callVN (as := []) (st := []) (d1 := 3) (x1 := 0) (x2 := x) (by decide +kernel) ln_11_192 mf_X5_total rfl sh_2 rfl (by decide) np_X5_total rfl (Nat.le_of_ble_eq_true rfl) (by decide) (Nat.zero_add _).symm (tq_M_mono (am_X5_total h) ?_)
    refine tq_wl_e (fun r2 z1 h => ?_)
    refine tq_s_lstore_n (kk := 1) (L9 := [.ref 0, .long r2, .null, .null, .null, .null]) (by decide +kernel) (by decide) rfl ?_
    refine tq_s_aload_n (kk := 0) (by decide +kernel) rfl ?_
    refine fg_11_21_0 rfl (by decide +kernel) ?_
    refine tq_s_aload_n (kk := 0) (by decide +kernel) rfl ?_
    refine fg_11_28_0 rfl (by decide +kernel) ?_
    refine fg_11_243_8 rfl (by decide +kernel) ?_
    refine tq_s_aload_n (kk := 0) (by decide +kernel) rfl ?_
    refine fg_11_28_0 rfl (by decide +kernel) ?_
    refine fg_11_246_8 rfl (by decide +kernel) ?_
    refine tq_callVN (as := [.long (tq_fl z1 517), .long (tq_fl z1 518)]) (st := []) (d1 := 3) (x1 := 0) (x2 := x) (by decide +kernel) ln_11_249 mf_X5_rank rfl sh_2 rfl (by decide) np_X5_rank rfl (Nat.le_of_ble_eq_true rfl) (by decide) (Nat.zero_add _).symm (tq_M_mono (am_X5_rank h) ?_)
    refine tq_wl_e (fun r4 z3 h => ?_)
    refine tq_s_lstore_n (kk := 3) (L9 := [.ref 0, .long r2, .null, .long r4, .null, .null]) (by decide +kernel) (by decide) rfl ?_
    refine tq_s_aload_n (kk := 0) (by decide +kernel) rfl ?_
    refine fg_11_21_0 rfl (by decide +kernel) ?_
    refine tq_s_lload_n (kk := 3) (by decide +kernel) rfl ?_
    refine tq_callVN (as := [.long r4]) (st := []) (d1 := 3) (x1 := 0) (x2 := x) (by decide +kernel) ln_11_474 mf_X5_make rfl sh_2 rfl (by decide) np_X5_make rfl (Nat.le_of_ble_eq_true rfl) (by decide) (Nat.zero_add _).symm (tq_M_mono (am_X5_make h) ?_)
    refine tq_wv_e (fun z5 h => ?_)
    refine tq_s_aload_n (kk := 0) (by decide +kernel) rfl ?_
    refine fg_11_21_0 rfl (by decide +kernel) ?_
    refine fg_11_477_2 rfl (by decide +kernel) ?_
    refine tq_s_aload_n (kk := 0) (by decide +kernel) rfl ?_
    refine fg_11_28_0 rfl (by decide +kernel) ?_
    refine fg_11_243_8 rfl (by decide +kernel) ?_
    refine tq_lcmp_ne (off := 25) (tgt := 90) (by decide +kernel) (by decide +kernel) (by decide +kernel) (fun hc => ?_) (fun hc => ?_)
    · replace h := h.1 hc
      exact ac_X11_numberIsSound_90 h
    · replace h := h.2 hc
      refine tq_s_aload_n (kk := 0) (by decide +kernel) rfl ?_
      refine fg_11_21_0 rfl (by decide +kernel) ?_
      refine fg_11_480_2 rfl (by decide +kernel) ?_
      refine tq_s_aload_n (kk := 0) (by decide +kernel) rfl ?_
      refine fg_11_28_0 rfl (by decide +kernel) ?_
      refine fg_11_246_8 rfl (by decide +kernel) ?_
      refine tq_lcmp_ne (off := 7) (tgt := 90) (by decide +kernel) (by decide +kernel) (by decide +kernel) (fun hc => ?_) (fun hc => ?_)
      · replace h := h.1 hc
        exact ac_X11_numberIsSound_90 h
      · replace h := h.2 hc
        refine tq_k_ic (n := 1) (v := (1 : Int32)) (by decide +kernel) kc_1 ?_
        refine tq_s_goto (off := 4) (tgt := 91) (by decide +kernel) (by decide +kernel) ?_
        exact ac_X11_numberIsSound_91 h
  · replace h := h.2 hc
    refine tq_k_ic (n := 1) (v := (1 : Int32)) (by decide +kernel) kc_1 ?_
    exact tq_ret_z (st := []) (ty := .boolean) (by decide +kernel) (by decide +kernel) rfl h
def wb_X11_flipsAreSound_53 (B53 : Int32 → tq_S → Prop) (Q : tq_O → tq_S → Prop) (a1 : Int32) (a2 : Int32) (z : tq_S) : Prop := ((a1 ≤ a2 → Q (.inl (some (.int (1 : Int32)))) z) ∧ (¬ a1 ≤ a2 → wm_X2_squareOf a2 z (tq_wi fun r102 z101 => wm_X2_rightFlipped r102 z101 (tq_wl fun r104 z103 => wm_X2_downFlipped r102 z103 (tq_wl fun r106 z105 => wm_X7_flipsFromKept r104 r106 z105 (tq_wi fun r108 z107 => ((r108 = (1 : Int32) → ∀ v109 : Int32, v109 = a2 + (1 : Int32) → B53 v109 z107) ∧ (¬ r108 = (1 : Int32) → Q (.inl (some (.int (0 : Int32)))) z107))))))))
def wc_X11_flipsAreSound_53 (Q : tq_O → tq_S → Prop) (a1 : Int32) (a2 : Int32) (z : tq_S) : Prop := tq_lp (σ := Int32 × tq_S) (fun B s => wb_X11_flipsAreSound_53 (fun b2 z => B (b2, z)) Q a1 s.1 s.2) (a2, z)
theorem ab_X11_flipsAreSound_53 {K : Nat × (Nat → Int32)} {x : Nat} {Q : tq_O → tq_S → Prop} {B53 : Int32 → tq_S → Prop} {a1 : Int32} {a2 : Int32} {z : tq_S} (hB53 : ∀ (b2 : Int32) (z : tq_S), B53 b2 z → tq_T K 5 x mm_X11_flipsAreSound 53 [.ref 0, .int a1, .int b2, .null] [] z Q) (h : wb_X11_flipsAreSound_53 B53 Q a1 a2 z) : tq_T K 5 x mm_X11_flipsAreSound 53 [.ref 0, .int a1, .int a2, .null] [] z Q := by
  unfold wb_X11_flipsAreSound_53 at h
  refine tq_s_iload_n (kk := 2) (by decide +kernel) rfl ?_
  refine tq_s_iload_n (kk := 1) (by decide +kernel) rfl ?_
  refine tq_icmp_ge (off := 47) (tgt := 102) (by decide +kernel) (by decide +kernel) (fun hc => ?_) (fun hc => ?_)
  · replace h := h.1 hc
    refine tq_k_ic (n := 1) (v := (1 : Int32)) (by decide +kernel) kc_1 ?_
    exact tq_ret_z (st := []) (ty := .boolean) (by decide +kernel) (by decide +kernel) rfl h
  · replace h := h.2 hc
    refine tq_s_aload_n (kk := 0) (by decide +kernel) rfl ?_
    refine fg_11_28_0 rfl (by decide +kernel) ?_
    refine tq_s_iload_n (kk := 2) (by decide +kernel) rfl ?_
    refine tq_callVN (as := [.int a2]) (st := []) (d1 := 3) (x1 := 0) (x2 := x) (by decide +kernel) ln_11_259 mf_X2_squareOf rfl sh_8 rfl (by decide) np_X2_squareOf rfl (Nat.le_of_ble_eq_true rfl) (by decide) (Nat.zero_add _).symm (tq_M_mono (am_X2_squareOf h) ?_)
    refine tq_wi_e (fun r102 z101 h => ?_)
    refine tq_s_istore_n (kk := 3) (L9 := [.ref 0, .int a1, .int a2, .int r102]) (by decide +kernel) (by decide) rfl ?_
    refine tq_s_aload_n (kk := 0) (by decide +kernel) rfl ?_
    refine fg_11_35_0 rfl (by decide +kernel) ?_
    refine tq_s_aload_n (kk := 0) (by decide +kernel) rfl ?_
    refine fg_11_28_0 rfl (by decide +kernel) ?_
    refine tq_s_iload_n (kk := 3) (by decide +kernel) rfl ?_
    refine tq_callVN (as := [.int r102]) (st := [.ref 12]) (d1 := 2) (x1 := 0) (x2 := x) (by decide +kernel) ln_11_265 mf_X2_rightFlipped rfl sh_8 rfl (by decide) np_X2_rightFlipped rfl (Nat.le_of_ble_eq_true rfl) (by decide) (Nat.zero_add _).symm (tq_M_mono (am_X2_rightFlipped h) ?_)
    refine tq_wl_e (fun r104 z103 h => ?_)
    refine tq_s_aload_n (kk := 0) (by decide +kernel) rfl ?_
    refine fg_11_28_0 rfl (by decide +kernel) ?_
    refine tq_s_iload_n (kk := 3) (by decide +kernel) rfl ?_
    refine tq_callVN (as := [.int r102]) (st := [.long r104, .ref 12]) (d1 := 2) (x1 := 0) (x2 := x) (by decide +kernel) ln_11_269 mf_X2_downFlipped rfl sh_8 rfl (by decide) np_X2_downFlipped rfl (Nat.le_of_ble_eq_true rfl) (by decide) (Nat.zero_add _).symm (tq_M_mono (am_X2_downFlipped h) ?_)
    refine tq_wl_e (fun r106 z105 h => ?_)
    refine tq_callVN (as := [.long r104, .long r106]) (st := []) (d1 := 4) (x1 := 0) (x2 := x) (by decide +kernel) ln_11_307 mf_X7_flipsFromKept rfl sh_12 rfl (by decide) np_X7_flipsFromKept rfl (Nat.le_of_ble_eq_true rfl) (by decide) (Nat.zero_add _).symm (tq_M_mono (am_X7_flipsFromKept h) ?_)
    refine tq_wi_e (fun r108 z107 h => ?_)
    refine tq_k_ic (n := 1) (v := (1 : Int32)) (by decide +kernel) kc_1 ?_
    refine tq_icmp_eq (off := 5) (tgt := 96) (by decide +kernel) (by decide +kernel) (fun hc => ?_) (fun hc => ?_)
    · replace h := h.1 hc
      refine tq_g_iinc (i := 2) (fun v109 => [.ref 0, .int a1, .int v109, .int r102]) (by decide +kernel) rfl (1 : Int32) kc_1 (fun _ => rfl) (fun v109 ev109 => ?_)
      replace h := h v109 ev109
      refine tq_s_goto (off := -46) (tgt := 53) (by decide +kernel) (by decide +kernel) ?_
      exact tq_to (tq_lk1 (tq_lk1 (tq_lk1 (tq_ld1 tq_l0)))) (hB53 _ _ h)
    · replace h := h.2 hc
      refine tq_k_ic (n := 0) (v := (0 : Int32)) (by decide +kernel) kc_0 ?_
      exact tq_ret_z (st := []) (ty := .boolean) (by decide +kernel) (by decide +kernel) rfl h
theorem ac_X11_flipsAreSound_53 {K : Nat × (Nat → Int32)} {x : Nat} {Q : tq_O → tq_S → Prop} {a1 : Int32} {a2 : Int32} {z : tq_S} (h : wc_X11_flipsAreSound_53 Q a1 a2 z) : tq_T K 5 x mm_X11_flipsAreSound 53 [.ref 0, .int a1, .int a2, .null] [] z Q :=
  tq_lp_T (σ := Int32 × tq_S) (s := (a2, z)) (G := fun s => tq_T K 5 x mm_X11_flipsAreSound 53 [.ref 0, .int a1, .int s.1, .null] [] s.2 Q) (fun B hB s h => ab_X11_flipsAreSound_53 (fun b2 z h => hB (b2, z) h) h) h
def wm_X11_flipsAreSound  (z : tq_S) (Q : tq_O → tq_S → Prop) : Prop := (((tq_fi z 516) = 0 → Q (.inl (some (.int (1 : Int32)))) z) ∧ (¬ (tq_fi z 516) = 0 → wm_X1_isPlain z (tq_wi fun r2 z1 => ((¬ r2 = 0 → wm_X7_fillKept (tq_fl z1 517) (tq_fl z1 518) z1 (tq_wv fun z3 => wm_X2_countFlips z3 (tq_wi fun r5 z4 => wc_X11_flipsAreSound_53 Q r5 (0 : Int32) z4))) ∧ (r2 = 0 → Q (.inl (some (.int (1 : Int32)))) z1)))))
theorem am_X11_flipsAreSound {K : Nat × (Nat → Int32)} {x : Nat} {z : tq_S} {Q : tq_O → tq_S → Prop}  (h : wm_X11_flipsAreSound z Q) : tq_M K 5 x mm_X11_flipsAreSound [.ref 0] z Q := by
  unfold wm_X11_flipsAreSound at h
  refine tq_enter (L := [.ref 0, .null, .null, .null]) mf_X11_flipsAreSound.1 rfl rfl (Nat.le_of_ble_eq_true rfl) ?_
  refine tq_s_aload_n (kk := 0) (by decide +kernel) rfl ?_
  refine fg_11_28_0 rfl (by decide +kernel) ?_
  refine fg_11_238_8 rfl (by decide +kernel) ?_
  refine tq_if_eq (off := 13) (tgt := 20) (by decide +kernel) (by decide +kernel) (fun hc => ?_) (fun hc => ?_)
  · replace h := h.1 hc
    refine tq_k_ic (n := 1) (v := (1 : Int32)) (by decide +kernel) kc_1 ?_
    exact tq_ret_z (st := []) (ty := .boolean) (by decide +kernel) (by decide +kernel) rfl h
  · replace h := h.2 hc
    refine tq_s_aload_n (kk := 0) (by decide +kernel) rfl ?_
    refine fg_11_10_0 rfl (by decide +kernel) ?_
    refine tq_callVN (as := []) (st := []) (d1 := 4) (x1 := 0) (x2 := x) (by decide +kernel) ln_11_199 mf_X1_isPlain rfl sh_1 rfl (by decide) np_X1_isPlain rfl (Nat.le_of_ble_eq_true rfl) (by decide) (Nat.zero_add _).symm (tq_M_mono (am_X1_isPlain h) ?_)
    refine tq_wi_e (fun r2 z1 h => ?_)
    refine tq_if_ne (off := 5) (tgt := 22) (by decide +kernel) (by decide +kernel) (fun hc => ?_) (fun hc => ?_)
    · replace h := h.1 hc
      refine tq_s_aload_n (kk := 0) (by decide +kernel) rfl ?_
      refine fg_11_35_0 rfl (by decide +kernel) ?_
      refine tq_s_aload_n (kk := 0) (by decide +kernel) rfl ?_
      refine fg_11_28_0 rfl (by decide +kernel) ?_
      refine fg_11_243_8 rfl (by decide +kernel) ?_
      refine tq_s_aload_n (kk := 0) (by decide +kernel) rfl ?_
      refine fg_11_28_0 rfl (by decide +kernel) ?_
      refine fg_11_246_8 rfl (by decide +kernel) ?_
      refine tq_callVN (as := [.long (tq_fl z1 517), .long (tq_fl z1 518)]) (st := []) (d1 := 4) (x1 := 0) (x2 := x) (by decide +kernel) ln_11_304 mf_X7_fillKept rfl sh_12 rfl (by decide) np_X7_fillKept rfl (Nat.le_of_ble_eq_true rfl) (by decide) (Nat.zero_add _).symm (tq_M_mono (am_X7_fillKept h) ?_)
      refine tq_wv_e (fun z3 h => ?_)
      refine tq_s_aload_n (kk := 0) (by decide +kernel) rfl ?_
      refine fg_11_28_0 rfl (by decide +kernel) ?_
      refine tq_callVN (as := []) (st := []) (d1 := 3) (x1 := 0) (x2 := x) (by decide +kernel) ln_11_256 mf_X2_countFlips rfl sh_8 rfl (by decide) np_X2_countFlips rfl (Nat.le_of_ble_eq_true rfl) (by decide) (Nat.zero_add _).symm (tq_M_mono (am_X2_countFlips h) ?_)
      refine tq_wi_e (fun r5 z4 h => ?_)
      refine tq_s_istore_n (kk := 1) (L9 := [.ref 0, .int r5, .null, .null]) (by decide +kernel) (by decide) rfl ?_
      refine tq_k_ic (n := 0) (v := (0 : Int32)) (by decide +kernel) kc_0 ?_
      refine tq_s_istore_n (kk := 2) (L9 := [.ref 0, .int r5, .int (0 : Int32), .null]) (by decide +kernel) (by decide) rfl ?_
      exact ac_X11_flipsAreSound_53 h
    · replace h := h.2 hc
      refine tq_k_ic (n := 1) (v := (1 : Int32)) (by decide +kernel) kc_1 ?_
      exact tq_ret_z (st := []) (ty := .boolean) (by decide +kernel) (by decide +kernel) rfl h
def wc_X5_withCell_85 (Q : tq_O → tq_S → Prop) (a1 : Int32) (a2 : Int32) (a3 : Int32) (a4 : Int64) (z : tq_S) : Prop := ((a3 = a1 → Q (.inl (some (.long (a4 + (0 : Int64))))) z) ∧ (¬ a3 = a1 → vp_in ((2 : Int32) * (((8 : Int32) * a2) + a3)) 128 ∧ Q (.inl (some (.long (a4 + (tq_al z 7 (Int32.toNatClampNeg ((2 : Int32) * (((8 : Int32) * a2) + a3)))))))) z))
theorem ac_X5_withCell_85 {K : Nat × (Nat → Int32)} {x : Nat} {Q : tq_O → tq_S → Prop} {a1 : Int32} {a2 : Int32} {a3 : Int32} {a4 : Int64} {z : tq_S} (h : wc_X5_withCell_85 Q a1 a2 a3 a4 z) : tq_T K 0 x mm_X5_withCell 85 [.ref 2, .int a1, .int a2, .int a3, .long a4, .null, .null] [] z Q := by
  unfold wc_X5_withCell_85 at h
  refine tq_s_lload (i := 4) (by decide +kernel) rfl ?_
  refine tq_s_iload_n (kk := 3) (by decide +kernel) rfl ?_
  refine tq_s_iload_n (kk := 1) (by decide +kernel) rfl ?_
  refine tq_icmp_eq (off := 19) (tgt := 108) (by decide +kernel) (by decide +kernel) (fun hc => ?_) (fun hc => ?_)
  · replace h := h.1 hc
    refine tq_k_lc (n := 0) (v := (0 : Int64)) (by decide +kernel) (by decide +kernel) ?_
    refine tq_s_ladd (by decide +kernel) ?_
    exact tq_ret_l (st := []) (by decide +kernel) rfl h
  · replace h := h.2 hc
    refine tq_s_aload_n (kk := 0) (by decide +kernel) rfl ?_
    refine fg_5_28_2 rfl (by decide +kernel) ?_
    refine tq_k_ic (n := 2) (v := (2 : Int32)) (by decide +kernel) kc_2 ?_
    refine tq_k_bi (n := 8) (v := (8 : Int32)) (by decide +kernel) kb_8 ?_
    refine tq_s_iload_n (kk := 2) (by decide +kernel) rfl ?_
    refine tq_s_imul (by decide +kernel) ?_
    refine tq_s_iload_n (kk := 3) (by decide +kernel) rfl ?_
    refine tq_s_iadd (by decide +kernel) ?_
    refine tq_s_imul (by decide +kernel) ?_
    refine tq_s_lald (by decide +kernel) sh_7 h.1 ?_
    replace h := h.2
    refine tq_s_goto (off := 4) (tgt := 109) (by decide +kernel) (by decide +kernel) ?_
    refine tq_s_ladd (by decide +kernel) ?_
    exact tq_ret_l (st := []) (by decide +kernel) rfl h
def wc_X5_withCell_59 (Q : tq_O → tq_S → Prop) (a1 : Int32) (a2 : Int32) (a3 : Int32) (a4 : Int64) (z : tq_S) : Prop := ((a2 ≤ 0 → wc_X5_withCell_85 Q a1 a2 a3 a4 z) ∧ (¬ a2 ≤ 0 → vp_in (((2 : Int32) * (((8 : Int32) * (a2 - (1 : Int32))) + a1)) + (1 : Int32)) 128 ∧ ∀ v101 : Int64, v101 = (a4 + (tq_al z 7 (Int32.toNatClampNeg (((2 : Int32) * (((8 : Int32) * (a2 - (1 : Int32))) + a1)) + (1 : Int32))))) → wc_X5_withCell_85 Q a1 a2 a3 v101 z))
theorem ac_X5_withCell_59 {K : Nat × (Nat → Int32)} {x : Nat} {Q : tq_O → tq_S → Prop} {a1 : Int32} {a2 : Int32} {a3 : Int32} {a4 : Int64} {z : tq_S} (h : wc_X5_withCell_59 Q a1 a2 a3 a4 z) : tq_T K 0 x mm_X5_withCell 59 [.ref 2, .int a1, .int a2, .int a3, .long a4, .null, .null] [] z Q := by
  unfold wc_X5_withCell_59 at h
  refine tq_s_iload_n (kk := 2) (by decide +kernel) rfl ?_
  refine tq_if_le (off := 25) (tgt := 85) (by decide +kernel) (by decide +kernel) (fun hc => ?_) (fun hc => ?_)
  · replace h := h.1 hc
    exact ac_X5_withCell_85 h
  · replace h := h.2 hc
    refine tq_s_lload (i := 4) (by decide +kernel) rfl ?_
    refine tq_s_aload_n (kk := 0) (by decide +kernel) rfl ?_
    refine fg_5_28_2 rfl (by decide +kernel) ?_
    refine tq_k_ic (n := 2) (v := (2 : Int32)) (by decide +kernel) kc_2 ?_
    refine tq_k_bi (n := 8) (v := (8 : Int32)) (by decide +kernel) kb_8 ?_
    refine tq_s_iload_n (kk := 2) (by decide +kernel) rfl ?_
    refine tq_k_ic (n := 1) (v := (1 : Int32)) (by decide +kernel) kc_1 ?_
    refine tq_s_isub (by decide +kernel) ?_
    refine tq_s_imul (by decide +kernel) ?_
    refine tq_s_iload_n (kk := 1) (by decide +kernel) rfl ?_
    refine tq_s_iadd (by decide +kernel) ?_
    refine tq_s_imul (by decide +kernel) ?_
    refine tq_k_ic (n := 1) (v := (1 : Int32)) (by decide +kernel) kc_1 ?_
    refine tq_s_iadd (by decide +kernel) ?_
    refine tq_s_lald (by decide +kernel) sh_7 h.1 ?_
    replace h := h.2
    refine tq_s_ladd (by decide +kernel) ?_
    refine tq_g_lstore (i := 4) (fun v101 => [.ref 2, .int a1, .int a2, .int a3, .long v101, .null, .null]) (by decide +kernel) (by decide) (fun _ => rfl) (fun v101 ev101 => ?_)
    replace h := h v101 ev101
    exact ac_X5_withCell_85 h
def wb_X5_withCell_26 (B26 : Int64 → Int32 → tq_S → Prop) (Q : tq_O → tq_S → Prop) (a1 : Int32) (a2 : Int32) (a3 : Int32) (a4 : Int64) (a6 : Int32) (z : tq_S) : Prop := (((2 : Int32) ≤ a6 → wc_X5_withCell_59 Q a1 a2 a3 a4 z) ∧ (¬ (2 : Int32) ≤ a6 → vp_in (((2 : Int32) * (((8 : Int32) * a2) + a1)) + a6) 128 ∧ ∀ v101 : Int64, v101 = (a4 + (tq_al z 7 (Int32.toNatClampNeg (((2 : Int32) * (((8 : Int32) * a2) + a1)) + a6)))) → ∀ v102 : Int32, v102 = a6 + (1 : Int32) → B26 v101 v102 z))
def wc_X5_withCell_26 (Q : tq_O → tq_S → Prop) (a1 : Int32) (a2 : Int32) (a3 : Int32) (a4 : Int64) (a6 : Int32) (z : tq_S) : Prop := tq_lp (σ := Int64 × Int32 × tq_S) (fun B s => wb_X5_withCell_26 (fun b4 b6 z => B (b4, b6, z)) Q a1 a2 a3 s.1 s.2.1 s.2.2) (a4, a6, z)
theorem ab_X5_withCell_26 {K : Nat × (Nat → Int32)} {x : Nat} {Q : tq_O → tq_S → Prop} {B26 : Int64 → Int32 → tq_S → Prop} {a1 : Int32} {a2 : Int32} {a3 : Int32} {a4 : Int64} {a6 : Int32} {z : tq_S} (hB26 : ∀ (b4 : Int64) (b6 : Int32) (z : tq_S), B26 b4 b6 z → tq_T K 0 x mm_X5_withCell 26 [.ref 2, .int a1, .int a2, .int a3, .long b4, .null, .int b6] [] z Q) (h : wb_X5_withCell_26 B26 Q a1 a2 a3 a4 a6 z) : tq_T K 0 x mm_X5_withCell 26 [.ref 2, .int a1, .int a2, .int a3, .long a4, .null, .int a6] [] z Q := by
  unfold wb_X5_withCell_26 at h
  refine tq_s_iload (i := 6) (by decide +kernel) rfl ?_
  refine tq_k_ic (n := 2) (v := (2 : Int32)) (by decide +kernel) kc_2 ?_
  refine tq_icmp_ge (off := 30) (tgt := 59) (by decide +kernel) (by decide +kernel) (fun hc => ?_) (fun hc => ?_)
  · replace h := h.1 hc
    exact tq_to (tq_lk1 (tq_lk1 (tq_lk1 (tq_lk1 (tq_lk1 (tq_lk1 (tq_ld1 tq_l0))))))) (ac_X5_withCell_59 h)
  · replace h := h.2 hc
    refine tq_s_lload (i := 4) (by decide +kernel) rfl ?_
    refine tq_s_aload_n (kk := 0) (by decide +kernel) rfl ?_
    refine fg_5_28_2 rfl (by decide +kernel) ?_
    refine tq_k_ic (n := 2) (v := (2 : Int32)) (by decide +kernel) kc_2 ?_
    refine tq_k_bi (n := 8) (v := (8 : Int32)) (by decide +kernel) kb_8 ?_
    refine tq_s_iload_n (kk := 2) (by decide +kernel) rfl ?_
    refine tq_s_imul (by decide +kernel) ?_
    refine tq_s_iload_n (kk := 1) (by decide +kernel) rfl ?_
    refine tq_s_iadd (by decide +kernel) ?_
    refine tq_s_imul (by decide +kernel) ?_
    refine tq_s_iload (i := 6) (by decide +kernel) rfl ?_
    refine tq_s_iadd (by decide +kernel) ?_
    refine tq_s_lald (by decide +kernel) sh_7 h.1 ?_
    replace h := h.2
    refine tq_s_ladd (by decide +kernel) ?_
    refine tq_g_lstore (i := 4) (fun v101 => [.ref 2, .int a1, .int a2, .int a3, .long v101, .null, .int a6]) (by decide +kernel) (by decide) (fun _ => rfl) (fun v101 ev101 => ?_)
    replace h := h v101 ev101
    refine tq_g_iinc (i := 6) (fun v102 => [.ref 2, .int a1, .int a2, .int a3, .long v101, .null, .int v102]) (by decide +kernel) rfl (1 : Int32) kc_1 (fun _ => rfl) (fun v102 ev102 => ?_)
    replace h := h v102 ev102
    refine tq_s_goto (off := -30) (tgt := 26) (by decide +kernel) (by decide +kernel) ?_
    exact hB26 _ _ _ h
theorem ac_X5_withCell_26 {K : Nat × (Nat → Int32)} {x : Nat} {Q : tq_O → tq_S → Prop} {a1 : Int32} {a2 : Int32} {a3 : Int32} {a4 : Int64} {a6 : Int32} {z : tq_S} (h : wc_X5_withCell_26 Q a1 a2 a3 a4 a6 z) : tq_T K 0 x mm_X5_withCell 26 [.ref 2, .int a1, .int a2, .int a3, .long a4, .null, .int a6] [] z Q :=
  tq_lp_T (σ := Int64 × Int32 × tq_S) (s := (a4, a6, z)) (G := fun s => tq_T K 0 x mm_X5_withCell 26 [.ref 2, .int a1, .int a2, .int a3, .long s.1, .null, .int s.2.1] [] s.2.2 Q) (fun B hB s h => ab_X5_withCell_26 (fun b4 b6 z h => hB (b4, b6, z) h) h) h
def wc_X5_withCell_19 (Q : tq_O → tq_S → Prop) (a1 : Int32) (a2 : Int32) (s0 : Int32) (z : tq_S) : Prop := wc_X5_withCell_26 Q a1 a2 s0 (0 : Int64) (0 : Int32) z
theorem ac_X5_withCell_19 {K : Nat × (Nat → Int32)} {x : Nat} {Q : tq_O → tq_S → Prop} {a1 : Int32} {a2 : Int32} {s0 : Int32} {z : tq_S} (h : wc_X5_withCell_19 Q a1 a2 s0 z) : tq_T K 0 x mm_X5_withCell 19 [.ref 2, .int a1, .int a2, .null, .null, .null, .null] [.int s0] z Q := by
  unfold wc_X5_withCell_19 at h
  refine tq_s_istore_n (kk := 3) (L9 := [.ref 2, .int a1, .int a2, .int s0, .null, .null, .null]) (by decide +kernel) (by decide) rfl ?_
  refine tq_k_lc (n := 0) (v := (0 : Int64)) (by decide +kernel) (by decide +kernel) ?_
  refine tq_s_lstore (i := 4) (L9 := [.ref 2, .int a1, .int a2, .int s0, .long (0 : Int64), .null, .null]) (by decide +kernel) (by decide) rfl ?_
  refine tq_k_ic (n := 0) (v := (0 : Int32)) (by decide +kernel) kc_0 ?_
  refine tq_s_istore (i := 6) (L9 := [.ref 2, .int a1, .int a2, .int s0, .long (0 : Int64), .null, .int (0 : Int32)]) (by decide +kernel) (by decide) rfl ?_
  exact ac_X5_withCell_26 h
def wm_X5_withCell (a1 : Int32) (a2 : Int32) (z : tq_S) (Q : tq_O → tq_S → Prop) : Prop := ((a1 ≤ 0 → wc_X5_withCell_19 Q a1 a2 ((tq_fi z 64) - (1 : Int32)) z) ∧ (¬ a1 ≤ 0 → wc_X5_withCell_19 Q a1 a2 (a1 - (1 : Int32)) z))
theorem am_X5_withCell {K : Nat × (Nat → Int32)} {x : Nat} {z : tq_S} {Q : tq_O → tq_S → Prop} {a1 : Int32} {a2 : Int32} (h : wm_X5_withCell a1 a2 z Q) : tq_M K 0 x mm_X5_withCell [.ref 2, .int a1, .int a2] z Q := by
  unfold wm_X5_withCell at h
  refine tq_enter (L := [.ref 2, .int a1, .int a2, .null, .null, .null, .null]) mf_X5_withCell.1 rfl rfl (Nat.le_of_ble_eq_true rfl) ?_
  refine tq_s_iload_n (kk := 1) (by decide +kernel) rfl ?_
  refine tq_if_le (off := 9) (tgt := 10) (by decide +kernel) (by decide +kernel) (fun hc => ?_) (fun hc => ?_)
  · replace h := h.1 hc
    refine tq_s_aload_n (kk := 0) (by decide +kernel) rfl ?_
    refine fg_5_7_2 rfl (by decide +kernel) ?_
    refine fg_5_48_1 rfl (by decide +kernel) ?_
    refine tq_k_ic (n := 1) (v := (1 : Int32)) (by decide +kernel) kc_1 ?_
    refine tq_s_isub (by decide +kernel) ?_
    exact ac_X5_withCell_19 h
  · replace h := h.2 hc
    refine tq_s_iload_n (kk := 1) (by decide +kernel) rfl ?_
    refine tq_k_ic (n := 1) (v := (1 : Int32)) (by decide +kernel) kc_1 ?_
    refine tq_s_isub (by decide +kernel) ?_
    refine tq_s_goto (off := 12) (tgt := 19) (by decide +kernel) (by decide +kernel) ?_
    exact ac_X5_withCell_19 h
def wc_X11_piecesAreSound_73 (B17 : Int32 → tq_S → Prop) (B31 : Int32 → tq_S → Prop) (Q : tq_O → tq_S → Prop) (a1 : Int64) (a3 : Int32) (a4 : Int32) (z : tq_S) : Prop := ∀ v101 : Int32, v101 = a4 + (1 : Int32) → B31 v101 z
theorem ac_X11_piecesAreSound_73 {K : Nat × (Nat → Int32)} {x : Nat} {Q : tq_O → tq_S → Prop} {B17 : Int32 → tq_S → Prop} {B31 : Int32 → tq_S → Prop} {a1 : Int64} {a3 : Int32} {a4 : Int32} {z : tq_S} (hB17 : ∀ (b3 : Int32) (z : tq_S), B17 b3 z → tq_T K 5 x mm_X11_piecesAreSound 17 [.ref 0, .long a1, .null, .int b3, .null] [] z Q) (hB31 : ∀ (b4 : Int32) (z : tq_S), B31 b4 z → tq_T K 5 x mm_X11_piecesAreSound 31 [.ref 0, .long a1, .null, .int a3, .int b4] [] z Q) (h : wc_X11_piecesAreSound_73 B17 B31 Q a1 a3 a4 z) : tq_T K 5 x mm_X11_piecesAreSound 73 [.ref 0, .long a1, .null, .int a3, .int a4] [] z Q := by
  unfold wc_X11_piecesAreSound_73 at h
  refine tq_g_iinc (i := 4) (fun v101 => [.ref 0, .long a1, .null, .int a3, .int v101]) (by decide +kernel) rfl (1 : Int32) kc_1 (fun _ => rfl) (fun v101 ev101 => ?_)
  replace h := h v101 ev101
  refine tq_s_goto (off := -45) (tgt := 31) (by decide +kernel) (by decide +kernel) ?_
  exact hB31 _ _ h
def wc_X11_piecesAreSound_79 (B17 : Int32 → tq_S → Prop) (Q : tq_O → tq_S → Prop) (a1 : Int64) (a3 : Int32) (z : tq_S) : Prop := ∀ v101 : Int32, v101 = a3 + (1 : Int32) → B17 v101 z
theorem ac_X11_piecesAreSound_79 {K : Nat × (Nat → Int32)} {x : Nat} {Q : tq_O → tq_S → Prop} {B17 : Int32 → tq_S → Prop} {a1 : Int64} {a3 : Int32} {z : tq_S} (hB17 : ∀ (b3 : Int32) (z : tq_S), B17 b3 z → tq_T K 5 x mm_X11_piecesAreSound 17 [.ref 0, .long a1, .null, .int b3, .null] [] z Q) (h : wc_X11_piecesAreSound_79 B17 Q a1 a3 z) : tq_T K 5 x mm_X11_piecesAreSound 79 [.ref 0, .long a1, .null, .int a3, .null] [] z Q := by
  unfold wc_X11_piecesAreSound_79 at h
  refine tq_g_iinc (i := 3) (fun v101 => [.ref 0, .long a1, .null, .int v101, .null]) (by decide +kernel) rfl (1 : Int32) kc_1 (fun _ => rfl) (fun v101 ev101 => ?_)
  replace h := h v101 ev101
  refine tq_s_goto (off := -65) (tgt := 17) (by decide +kernel) (by decide +kernel) ?_
  exact hB17 _ _ h
def wb_X11_piecesAreSound_31 (B17 : Int32 → tq_S → Prop) (B31 : Int32 → tq_S → Prop) (Q : tq_O → tq_S → Prop) (a1 : Int64) (a3 : Int32) (a4 : Int32) (z : tq_S) : Prop := (((tq_fi z 64) ≤ a4 → wc_X11_piecesAreSound_79 B17 Q a1 a3 z) ∧ (¬ (tq_fi z 64) ≤ a4 → wm_X1_holds a4 a3 z (tq_wi fun r102 z101 => ((r102 = 0 → wc_X11_piecesAreSound_73 B17 B31 Q a1 a3 a4 z101) ∧ (¬ r102 = 0 → wm_X5_withCell a4 a3 z101 (tq_wl fun r104 z103 => ((r104 = a1 → wc_X11_piecesAreSound_73 B17 B31 Q a1 a3 a4 z103) ∧ (¬ r104 = a1 → Q (.inl (some (.int (0 : Int32)))) z103))))))))
def wc_X11_piecesAreSound_31 (B17 : Int32 → tq_S → Prop) (Q : tq_O → tq_S → Prop) (a1 : Int64) (a3 : Int32) (a4 : Int32) (z : tq_S) : Prop := tq_lp (σ := Int32 × tq_S) (fun B s => wb_X11_piecesAreSound_31 B17 (fun b4 z => B (b4, z)) Q a1 a3 s.1 s.2) (a4, z)
theorem ab_X11_piecesAreSound_31 {K : Nat × (Nat → Int32)} {x : Nat} {Q : tq_O → tq_S → Prop} {B17 : Int32 → tq_S → Prop} {B31 : Int32 → tq_S → Prop} {a1 : Int64} {a3 : Int32} {a4 : Int32} {z : tq_S} (hB17 : ∀ (b3 : Int32) (z : tq_S), B17 b3 z → tq_T K 5 x mm_X11_piecesAreSound 17 [.ref 0, .long a1, .null, .int b3, .null] [] z Q) (hB31 : ∀ (b4 : Int32) (z : tq_S), B31 b4 z → tq_T K 5 x mm_X11_piecesAreSound 31 [.ref 0, .long a1, .null, .int a3, .int b4] [] z Q) (h : wb_X11_piecesAreSound_31 B17 B31 Q a1 a3 a4 z) : tq_T K 5 x mm_X11_piecesAreSound 31 [.ref 0, .long a1, .null, .int a3, .int a4] [] z Q := by
  unfold wb_X11_piecesAreSound_31 at h
  refine tq_s_iload (i := 4) (by decide +kernel) rfl ?_
  refine tq_s_aload_n (kk := 0) (by decide +kernel) rfl ?_
  refine fg_11_10_0 rfl (by decide +kernel) ?_
  refine fg_11_486_1 rfl (by decide +kernel) ?_
  refine tq_icmp_ge (off := 39) (tgt := 79) (by decide +kernel) (by decide +kernel) (fun hc => ?_) (fun hc => ?_)
  · replace h := h.1 hc
    exact tq_to (tq_lk1 (tq_lk1 (tq_lk1 (tq_lk1 (tq_ld1 tq_l0))))) (ac_X11_piecesAreSound_79 hB17 h)
  · replace h := h.2 hc
    refine tq_s_aload_n (kk := 0) (by decide +kernel) rfl ?_
    refine fg_11_10_0 rfl (by decide +kernel) ?_
    refine tq_s_iload (i := 4) (by decide +kernel) rfl ?_
    refine tq_s_iload_n (kk := 3) (by decide +kernel) rfl ?_
    refine tq_callVN (as := [.int a4, .int a3]) (st := []) (d1 := 0) (x1 := 0) (x2 := x) (by decide +kernel) ln_11_137 mf_X1_holds rfl sh_1 rfl (by decide) np_X1_holds rfl (Nat.le_of_ble_eq_true rfl) (by decide) (Nat.zero_add _).symm (tq_M_mono (am_X1_holds h) ?_)
    refine tq_wi_e (fun r102 z101 h => ?_)
    refine tq_if_eq (off := 20) (tgt := 73) (by decide +kernel) (by decide +kernel) (fun hc => ?_) (fun hc => ?_)
    · replace h := h.1 hc
      exact ac_X11_piecesAreSound_73 hB17 hB31 h
    · replace h := h.2 hc
      refine tq_s_aload_n (kk := 0) (by decide +kernel) rfl ?_
      refine fg_11_21_0 rfl (by decide +kernel) ?_
      refine tq_s_iload (i := 4) (by decide +kernel) rfl ?_
      refine tq_s_iload_n (kk := 3) (by decide +kernel) rfl ?_
      refine tq_callVN (as := [.int a4, .int a3]) (st := []) (d1 := 0) (x1 := 0) (x2 := x) (by decide +kernel) ln_11_489 mf_X5_withCell rfl sh_2 rfl (by decide) np_X5_withCell rfl (Nat.le_of_ble_eq_true rfl) (by decide) (Nat.zero_add _).symm (tq_M_mono (am_X5_withCell h) ?_)
      refine tq_wl_e (fun r104 z103 h => ?_)
      refine tq_s_lload_n (kk := 1) (by decide +kernel) rfl ?_
      refine tq_lcmp_eq (off := 5) (tgt := 73) (by decide +kernel) (by decide +kernel) (by decide +kernel) (fun hc => ?_) (fun hc => ?_)
      · replace h := h.1 hc
        exact ac_X11_piecesAreSound_73 hB17 hB31 h
      · replace h := h.2 hc
        refine tq_k_ic (n := 0) (v := (0 : Int32)) (by decide +kernel) kc_0 ?_
        exact tq_ret_z (st := []) (ty := .boolean) (by decide +kernel) (by decide +kernel) rfl h
theorem ac_X11_piecesAreSound_31 {K : Nat × (Nat → Int32)} {x : Nat} {Q : tq_O → tq_S → Prop} {B17 : Int32 → tq_S → Prop} {a1 : Int64} {a3 : Int32} {a4 : Int32} {z : tq_S} (hB17 : ∀ (b3 : Int32) (z : tq_S), B17 b3 z → tq_T K 5 x mm_X11_piecesAreSound 17 [.ref 0, .long a1, .null, .int b3, .null] [] z Q) (h : wc_X11_piecesAreSound_31 B17 Q a1 a3 a4 z) : tq_T K 5 x mm_X11_piecesAreSound 31 [.ref 0, .long a1, .null, .int a3, .int a4] [] z Q :=
  tq_lp_T (σ := Int32 × tq_S) (s := (a4, z)) (G := fun s => tq_T K 5 x mm_X11_piecesAreSound 31 [.ref 0, .long a1, .null, .int a3, .int s.1] [] s.2 Q) (fun B hB s h => ab_X11_piecesAreSound_31 hB17 (fun b4 z h => hB (b4, z) h) h) h
def wb_X11_piecesAreSound_17 (B17 : Int32 → tq_S → Prop) (Q : tq_O → tq_S → Prop) (a1 : Int64) (a3 : Int32) (z : tq_S) : Prop := (((tq_fi z 65) ≤ a3 → Q (.inl (some (.int (1 : Int32)))) z) ∧ (¬ (tq_fi z 65) ≤ a3 → wc_X11_piecesAreSound_31 B17 Q a1 a3 (0 : Int32) z))
def wc_X11_piecesAreSound_17 (Q : tq_O → tq_S → Prop) (a1 : Int64) (a3 : Int32) (z : tq_S) : Prop := tq_lp (σ := Int32 × tq_S) (fun B s => wb_X11_piecesAreSound_17 (fun b3 z => B (b3, z)) Q a1 s.1 s.2) (a3, z)
theorem ab_X11_piecesAreSound_17 {K : Nat × (Nat → Int32)} {x : Nat} {Q : tq_O → tq_S → Prop} {B17 : Int32 → tq_S → Prop} {a1 : Int64} {a3 : Int32} {z : tq_S} (hB17 : ∀ (b3 : Int32) (z : tq_S), B17 b3 z → tq_T K 5 x mm_X11_piecesAreSound 17 [.ref 0, .long a1, .null, .int b3, .null] [] z Q) (h : wb_X11_piecesAreSound_17 B17 Q a1 a3 z) : tq_T K 5 x mm_X11_piecesAreSound 17 [.ref 0, .long a1, .null, .int a3, .null] [] z Q := by
  unfold wb_X11_piecesAreSound_17 at h
  refine tq_s_iload_n (kk := 3) (by decide +kernel) rfl ?_
  refine tq_s_aload_n (kk := 0) (by decide +kernel) rfl ?_
  refine fg_11_10_0 rfl (by decide +kernel) ?_
  refine fg_11_483_1 rfl (by decide +kernel) ?_
  refine tq_icmp_ge (off := 60) (tgt := 85) (by decide +kernel) (by decide +kernel) (fun hc => ?_) (fun hc => ?_)
  · replace h := h.1 hc
    refine tq_k_ic (n := 1) (v := (1 : Int32)) (by decide +kernel) kc_1 ?_
    exact tq_ret_z (st := []) (ty := .boolean) (by decide +kernel) (by decide +kernel) rfl h
  · replace h := h.2 hc
    refine tq_k_ic (n := 0) (v := (0 : Int32)) (by decide +kernel) kc_0 ?_
    refine tq_s_istore (i := 4) (L9 := [.ref 0, .long a1, .null, .int a3, .int (0 : Int32)]) (by decide +kernel) (by decide) rfl ?_
    exact ac_X11_piecesAreSound_31 hB17 h
theorem ac_X11_piecesAreSound_17 {K : Nat × (Nat → Int32)} {x : Nat} {Q : tq_O → tq_S → Prop} {a1 : Int64} {a3 : Int32} {z : tq_S} (h : wc_X11_piecesAreSound_17 Q a1 a3 z) : tq_T K 5 x mm_X11_piecesAreSound 17 [.ref 0, .long a1, .null, .int a3, .null] [] z Q :=
  tq_lp_T (σ := Int32 × tq_S) (s := (a3, z)) (G := fun s => tq_T K 5 x mm_X11_piecesAreSound 17 [.ref 0, .long a1, .null, .int s.1, .null] [] s.2 Q) (fun B hB s h => ab_X11_piecesAreSound_17 (fun b3 z h => hB (b3, z) h) h) h
def wm_X11_piecesAreSound  (z : tq_S) (Q : tq_O → tq_S → Prop) : Prop := wm_X5_total z (tq_wl fun r2 z1 => wm_X5_fillHaving z1 (tq_wv fun z3 => wc_X11_piecesAreSound_17 Q r2 (0 : Int32) z3))
theorem am_X11_piecesAreSound {K : Nat × (Nat → Int32)} {x : Nat} {z : tq_S} {Q : tq_O → tq_S → Prop}  (h : wm_X11_piecesAreSound z Q) : tq_M K 5 x mm_X11_piecesAreSound [.ref 0] z Q := by
  unfold wm_X11_piecesAreSound at h
  refine tq_enter (L := [.ref 0, .null, .null, .null, .null]) mf_X11_piecesAreSound.1 rfl rfl (Nat.le_of_ble_eq_true rfl) ?_
  refine tq_s_aload_n (kk := 0) (by decide +kernel) rfl ?_
  refine fg_11_21_0 rfl (by decide +kernel) ?_
  refine tq_callVN (as := []) (st := []) (d1 := 3) (x1 := 0) (x2 := x) (by decide +kernel) ln_11_192 mf_X5_total rfl sh_2 rfl (by decide) np_X5_total rfl (Nat.le_of_ble_eq_true rfl) (by decide) (Nat.zero_add _).symm (tq_M_mono (am_X5_total h) ?_)
  refine tq_wl_e (fun r2 z1 h => ?_)
  refine tq_s_lstore_n (kk := 1) (L9 := [.ref 0, .long r2, .null, .null, .null]) (by decide +kernel) (by decide) rfl ?_
  refine tq_s_aload_n (kk := 0) (by decide +kernel) rfl ?_
  refine fg_11_21_0 rfl (by decide +kernel) ?_
  refine tq_callVN (as := []) (st := []) (d1 := 4) (x1 := 0) (x2 := x) (by decide +kernel) ln_11_214 mf_X5_fillHaving rfl sh_2 rfl (by decide) np_X5_fillHaving rfl (Nat.le_of_ble_eq_true rfl) (by decide) (Nat.zero_add _).symm (tq_M_mono (am_X5_fillHaving h) ?_)
  refine tq_wv_e (fun z3 h => ?_)
  refine tq_k_ic (n := 0) (v := (0 : Int32)) (by decide +kernel) kc_0 ?_
  refine tq_s_istore_n (kk := 3) (L9 := [.ref 0, .long r2, .null, .int (0 : Int32), .null]) (by decide +kernel) (by decide) rfl ?_
  exact ac_X11_piecesAreSound_17 h
