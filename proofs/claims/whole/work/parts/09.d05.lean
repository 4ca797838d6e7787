def wc_X12_rooks_16 (Q : tq_O → tq_S → Prop) (a1 : Int32) (s0 : Int32) (z : tq_S) : Prop := wm_X12_isThrown s0 (1 : Int32) z (tq_wi fun r102 z101 => ((r102 = 0 → wm_X12_rooksOf a1 z101 (tq_wl fun r104 z103 => wm_X12_put r104 z103 (tq_wi fun r106 z105 => Q (.inl (some (.int r106))) z105))) ∧ (¬ r102 = 0 → Q (.inl (some (.int (0 : Int32)))) z101)))
theorem ac_X12_rooks_16 {K : Nat × (Nat → Int32)} {x : Nat} {Q : tq_O → tq_S → Prop} {a1 : Int32} {s0 : Int32} {z : tq_S} (h : wc_X12_rooks_16 Q a1 s0 z) : tq_T K 42 x mm_X12_rooks 16 [.ref 51, .int a1] [.int s0, .ref 51] z Q := by
  unfold wc_X12_rooks_16 at h
  refine tq_k_ic (n := 1) (v := (1 : Int32)) (by decide +kernel) kc_1 ?_
  refine tq_callV (as := [.int s0, .int (1 : Int32)]) (st := []) (d1 := 0) (x1 := 0) (x2 := x) (by decide +kernel) ln_12_152 mf_X12_isThrown rfl sh_51 rfl (by decide) np_X12_isThrown rfl (Nat.le_of_ble_eq_true rfl) (by decide) (Nat.zero_add _).symm (tq_M_mono (am_X12_isThrown h) ?_)
  refine tq_wi_e (fun r102 z101 h => ?_)
  refine tq_if_eq (off := 7) (tgt := 27) (by decide +kernel) (by decide +kernel) (fun hc => ?_) (fun hc => ?_)
  · replace h := h.1 hc
    refine tq_s_aload_n (kk := 0) (by decide +kernel) rfl ?_
    refine tq_s_aload_n (kk := 0) (by decide +kernel) rfl ?_
    refine tq_s_iload_n (kk := 1) (by decide +kernel) rfl ?_
    refine tq_callV (as := [.int a1]) (st := [.ref 51]) (d1 := 1) (x1 := 0) (x2 := x) (by decide +kernel) ln_12_452 mf_X12_rooksOf rfl sh_51 rfl (by decide) np_X12_rooksOf rfl (Nat.le_of_ble_eq_true rfl) (by decide) (Nat.zero_add _).symm (tq_M_mono (am_X12_rooksOf h) ?_)
    refine tq_wl_e (fun r104 z103 h => ?_)
    refine tq_callV (as := [.long r104]) (st := []) (d1 := 41) (x1 := 0) (x2 := x) (by decide +kernel) ln_12_226 mf_X12_put rfl sh_51 rfl (by decide) np_X12_put rfl (Nat.le_of_ble_eq_true rfl) (by decide) (Nat.zero_add _).symm (tq_M_mono (am_X12_put h) ?_)
    refine tq_wi_e (fun r106 z105 h => ?_)
    exact tq_ret_i (st := []) (by decide +kernel) rfl h
  · replace h := h.2 hc
    refine tq_k_ic (n := 0) (v := (0 : Int32)) (by decide +kernel) kc_0 ?_
    refine tq_s_goto (off := 12) (tgt := 36) (by decide +kernel) (by decide +kernel) ?_
    exact tq_ret_i (st := []) (by decide +kernel) rfl h
def wm_X12_rooks (a1 : Int32) (z : tq_S) (Q : tq_O → tq_S → Prop) : Prop := wm_X12_isIn a1 (0 : Int32) (8 : Int32) z (tq_wi fun r2 z1 => ((¬ r2 = 0 → wc_X12_rooks_16 Q a1 (0 : Int32) z1) ∧ (r2 = 0 → wc_X12_rooks_16 Q a1 (1 : Int32) z1)))
theorem am_X12_rooks {K : Nat × (Nat → Int32)} {x : Nat} {z : tq_S} {Q : tq_O → tq_S → Prop} {a1 : Int32} (h : wm_X12_rooks a1 z Q) : tq_M K 42 x mm_X12_rooks [.ref 51, .int a1] z Q := by
  unfold wm_X12_rooks at h
  refine tq_enter (L := [.ref 51, .int a1]) mf_X12_rooks.1 rfl rfl (Nat.le_of_ble_eq_true rfl) ?_
  refine tq_s_aload_n (kk := 0) (by decide +kernel) rfl ?_
  refine tq_s_iload_n (kk := 1) (by decide +kernel) rfl ?_
  refine tq_k_ic (n := 0) (v := (0 : Int32)) (by decide +kernel) kc_0 ?_
  refine tq_k_bi (n := 8) (v := (8 : Int32)) (by decide +kernel) kb_8 ?_
  refine tq_callS (as := [.int a1, .int (0 : Int32), .int (8 : Int32)]) (st := [.ref 51]) (d1 := 0) (x1 := 0) (x2 := x) (by decide +kernel) ln_12_148 mf_X12_isIn rfl (by decide) np_X12_isIn rfl (Nat.le_of_ble_eq_true rfl) (by decide) (Nat.zero_add _).symm (tq_M_mono (am_X12_isIn h) ?_)
  refine tq_wi_e (fun r2 z1 h => ?_)
  refine tq_if_ne (off := 7) (tgt := 15) (by decide +kernel) (by decide +kernel) (fun hc => ?_) (fun hc => ?_)
  · replace h := h.1 hc
    refine tq_k_ic (n := 0) (v := (0 : Int32)) (by decide +kernel) kc_0 ?_
    exact ac_X12_rooks_16 h
  · replace h := h.2 hc
    refine tq_k_ic (n := 1) (v := (1 : Int32)) (by decide +kernel) kc_1 ?_
    refine tq_s_goto (off := 4) (tgt := 16) (by decide +kernel) (by decide +kernel) ?_
    exact ac_X12_rooks_16 h
def wc_X12_mostRooks_30 (B9 : Int32 → Int32 → tq_S → Prop) (Q : tq_O → tq_S → Prop) (a2 : Int32) (s0 : Int32) (z : tq_S) : Prop := ∀ v101 : Int32, v101 = a2 + (1 : Int32) → B9 s0 v101 z
theorem ac_X12_mostRooks_30 {K : Nat × (Nat → Int32)} {x : Nat} {Q : tq_O → tq_S → Prop} {B9 : Int32 → Int32 → tq_S → Prop} {a2 : Int32} {s0 : Int32} {z : tq_S} (hB9 : ∀ (b1 : Int32) (b2 : Int32) (z : tq_S), B9 b1 b2 z → tq_T K 2 x mm_X12_mostRooks 9 [.ref 51, .int b1, .int b2] [] z Q) (h : wc_X12_mostRooks_30 B9 Q a2 s0 z) : tq_T K 2 x mm_X12_mostRooks 30 [.ref 51, .null, .int a2] [.int s0] z Q := by
  unfold wc_X12_mostRooks_30 at h
  refine tq_s_istore_n (kk := 1) (L9 := [.ref 51, .int s0, .int a2]) (by decide +kernel) (by decide) rfl ?_
  refine tq_g_iinc (i := 2) (fun v101 => [.ref 51, .int s0, .int v101]) (by decide +kernel) rfl (1 : Int32) kc_1 (fun _ => rfl) (fun v101 ev101 => ?_)
  replace h := h v101 ev101
  refine tq_s_goto (off := -25) (tgt := 9) (by decide +kernel) (by decide +kernel) ?_
  exact hB9 _ _ _ h
def wb_X12_mostRooks_9 (B9 : Int32 → Int32 → tq_S → Prop) (Q : tq_O → tq_S → Prop) (a1 : Int32) (a2 : Int32) (z : tq_S) : Prop := (((8 : Int32) < a2 → Q (.inl (some (.int a1))) z) ∧ (¬ (8 : Int32) < a2 → wm_X12_rooksOf a2 z (tq_wl fun r102 z101 => ((r102 ≤ (0 : Int64) → wc_X12_mostRooks_30 B9 Q a2 a1 z101) ∧ (¬ r102 ≤ (0 : Int64) → wc_X12_mostRooks_30 B9 Q a2 a2 z101)))))
def wc_X12_mostRooks_9 (Q : tq_O → tq_S → Prop) (a1 : Int32) (a2 : Int32) (z : tq_S) : Prop := tq_lp (σ := Int32 × Int32 × tq_S) (fun B s => wb_X12_mostRooks_9 (fun b1 b2 z => B (b1, b2, z)) Q s.1 s.2.1 s.2.2) (a1, a2, z)
theorem ab_X12_mostRooks_9 {K : Nat × (Nat → Int32)} {x : Nat} {Q : tq_O → tq_S → Prop} {B9 : Int32 → Int32 → tq_S → Prop} {a1 : Int32} {a2 : Int32} {z : tq_S} (hB9 : ∀ (b1 : Int32) (b2 : Int32) (z : tq_S), B9 b1 b2 z → tq_T K 2 x mm_X12_mostRooks 9 [.ref 51, .int b1, .int b2] [] z Q) (h : wb_X12_mostRooks_9 B9 Q a1 a2 z) : tq_T K 2 x mm_X12_mostRooks 9 [.ref 51, .int a1, .int a2] [] z Q := by
  unfold wb_X12_mostRooks_9 at h
  refine tq_s_iload_n (kk := 2) (by decide +kernel) rfl ?_
  refine tq_k_bi (n := 8) (v := (8 : Int32)) (by decide +kernel) kb_8 ?_
  refine tq_icmp_gt (off := 25) (tgt := 37) (by decide +kernel) (by decide +kernel) (fun hc => ?_) (fun hc => ?_)
  · replace h := h.1 hc
    refine tq_s_iload_n (kk := 1) (by decide +kernel) rfl ?_
    exact tq_ret_i (st := []) (by decide +kernel) rfl h
  · replace h := h.2 hc
    refine tq_s_aload_n (kk := 0) (by decide +kernel) rfl ?_
    refine tq_s_iload_n (kk := 2) (by decide +kernel) rfl ?_
    refine tq_callV (as := [.int a2]) (st := []) (d1 := 1) (x1 := 0) (x2 := x) (by decide +kernel) ln_12_452 mf_X12_rooksOf rfl sh_51 rfl (by decide) np_X12_rooksOf rfl (Nat.le_of_ble_eq_true rfl) (by decide) (Nat.zero_add _).symm (tq_M_mono (am_X12_rooksOf h) ?_)
    refine tq_wl_e (fun r102 z101 h => ?_)
    refine tq_k_lc (n := 0) (v := (0 : Int64)) (by decide +kernel) (by decide +kernel) ?_
    refine tq_lcmp_le (off := 7) (tgt := 29) (by decide +kernel) (by decide +kernel) (by decide +kernel) (fun hc => ?_) (fun hc => ?_)
    · replace h := h.1 hc
      refine tq_s_iload_n (kk := 1) (by decide +kernel) rfl ?_
      exact tq_to (tq_lk1 (tq_ld1 (tq_lk1 tq_l0))) (ac_X12_mostRooks_30 hB9 h)
    · replace h := h.2 hc
      refine tq_s_iload_n (kk := 2) (by decide +kernel) rfl ?_
      refine tq_s_goto (off := 4) (tgt := 30) (by decide +kernel) (by decide +kernel) ?_
      exact tq_to (tq_lk1 (tq_ld1 (tq_lk1 tq_l0))) (ac_X12_mostRooks_30 hB9 h)
theorem ac_X12_mostRooks_9 {K : Nat × (Nat → Int32)} {x : Nat} {Q : tq_O → tq_S → Prop} {a1 : Int32} {a2 : Int32} {z : tq_S} (h : wc_X12_mostRooks_9 Q a1 a2 z) : tq_T K 2 x mm_X12_mostRooks 9 [.ref 51, .int a1, .int a2] [] z Q :=
  tq_lp_T (σ := Int32 × Int32 × tq_S) (s := (a1, a2, z)) (G := fun s => tq_T K 2 x mm_X12_mostRooks 9 [.ref 51, .int s.1, .int s.2.1] [] s.2.2 Q) (fun B hB s h => ab_X12_mostRooks_9 (fun b1 b2 z h => hB (b1, b2, z) h) h) h
def wm_X12_mostRooks  (z : tq_S) (Q : tq_O → tq_S → Prop) : Prop := ∀ z1 : tq_S, z1 = tq_sfi z 3264 (0 : Int32) → wc_X12_mostRooks_9 Q (0 : Int32) (1 : Int32) z1
theorem am_X12_mostRooks {K : Nat × (Nat → Int32)} {x : Nat} {z : tq_S} {Q : tq_O → tq_S → Prop}  (h : wm_X12_mostRooks z Q) : tq_M K 2 x mm_X12_mostRooks [.ref 51] z Q := by
  unfold wm_X12_mostRooks at h
  refine tq_enter (L := [.ref 51, .null, .null]) mf_X12_mostRooks.1 rfl rfl (Nat.le_of_ble_eq_true rfl) ?_
  refine tq_s_aload_n (kk := 0) (by decide +kernel) rfl ?_
  refine tq_k_ic (n := 0) (v := (0 : Int32)) (by decide +kernel) kc_0 ?_
  refine fp_12_129_51 rfl (by decide +kernel) (fun z1 ez1 => ?_)
  replace h := h z1 ez1
  refine tq_k_ic (n := 0) (v := (0 : Int32)) (by decide +kernel) kc_0 ?_
  refine tq_s_istore_n (kk := 1) (L9 := [.ref 51, .int (0 : Int32), .null]) (by decide +kernel) (by decide) rfl ?_
  refine tq_k_ic (n := 1) (v := (1 : Int32)) (by decide +kernel) kc_1 ?_
  refine tq_s_istore_n (kk := 2) (L9 := [.ref 51, .int (0 : Int32), .int (1 : Int32)]) (by decide +kernel) (by decide) rfl ?_
  exact ac_X12_mostRooks_9 h
def wm_X12_add (a1 : Int32) (a2 : Int64) (z : tq_S) (Q : tq_O → tq_S → Prop) : Prop := vp_in a1 262144 ∧ vp_in a1 262144 ∧ ∀ z1 : tq_S, z1 = tq_sal z 86 (vp_updL (tq_al z 86) (Int32.toNatClampNeg a1) ((tq_al z 86 (Int32.toNatClampNeg a1)) + a2)) → Q (.inl none) z1
theorem am_X12_add {K : Nat × (Nat → Int32)} {x : Nat} {z : tq_S} {Q : tq_O → tq_S → Prop} {a1 : Int32} {a2 : Int64} (h : wm_X12_add a1 a2 z Q) : tq_M K 0 x mm_X12_add [.ref 51, .int a1, .long a2] z Q := by
  unfold wm_X12_add at h
  refine tq_enter (L := [.ref 51, .int a1, .long a2, .null]) mf_X12_add.1 rfl rfl (Nat.le_of_ble_eq_true rfl) ?_
  refine tq_s_aload_n (kk := 0) (by decide +kernel) rfl ?_
  refine fg_12_126_51 rfl (by decide +kernel) ?_
  refine tq_s_iload_n (kk := 1) (by decide +kernel) rfl ?_
  refine tq_s_dup2_11 (by decide +kernel) rfl rfl ?_
  refine tq_s_lald (by decide +kernel) sh_86 h.1 ?_
  replace h := h.2
  refine tq_s_lload_n (kk := 2) (by decide +kernel) rfl ?_
  refine tq_s_ladd (by decide +kernel) ?_
  refine tq_g_last (by decide +kernel) sh_86 h.1 (fun z1 ez1 => ?_)
  replace h := h.2 z1 ez1
  exact tq_ret_v (st := []) (by decide +kernel) rfl h
def wm_X12_plug (a0 : Int32) (a1 : Int32) (z : tq_S) (Q : tq_O → tq_S → Prop) : Prop := Q (.inl (some (.int ((a0 >>> (((2 : Int32) * a1) &&& 31)) &&& (3 : Int32))))) z
theorem am_X12_plug {K : Nat × (Nat → Int32)} {x : Nat} {z : tq_S} {Q : tq_O → tq_S → Prop} {a0 : Int32} {a1 : Int32} (h : wm_X12_plug a0 a1 z Q) : tq_M K 0 x mm_X12_plug [.int a0, .int a1] z Q := by
  unfold wm_X12_plug at h
  refine tq_enter (L := [.int a0, .int a1]) mf_X12_plug.1 rfl rfl (Nat.le_of_ble_eq_true rfl) ?_
  refine tq_s_iload_n (kk := 0) (by decide +kernel) rfl ?_
  refine tq_k_ic (n := 2) (v := (2 : Int32)) (by decide +kernel) kc_2 ?_
  refine tq_s_iload_n (kk := 1) (by decide +kernel) rfl ?_
  refine tq_s_imul (by decide +kernel) ?_
  refine tq_s_ishr (by decide +kernel) ?_
  refine tq_k_ic (n := 3) (v := (3 : Int32)) (by decide +kernel) kc_3 ?_
  refine tq_s_iand (by decide +kernel) ?_
  exact tq_ret_i (st := []) (by decide +kernel) rfl h
def wm_X12_with (a0 : Int32) (a1 : Int32) (a2 : Int32) (z : tq_S) (Q : tq_O → tq_S → Prop) : Prop := Q (.inl (some (.int ((a0 &&& (((3 : Int32) <<< (((2 : Int32) * a1) &&& 31)) ^^^ (-1 : Int32))) ||| (a2 <<< (((2 : Int32) * a1) &&& 31)))))) z
theorem am_X12_with {K : Nat × (Nat → Int32)} {x : Nat} {z : tq_S} {Q : tq_O → tq_S → Prop} {a0 : Int32} {a1 : Int32} {a2 : Int32} (h : wm_X12_with a0 a1 a2 z Q) : tq_M K 0 x mm_X12_with [.int a0, .int a1, .int a2] z Q := by
  unfold wm_X12_with at h
  refine tq_enter (L := [.int a0, .int a1, .int a2]) mf_X12_with.1 rfl rfl (Nat.le_of_ble_eq_true rfl) ?_
  refine tq_s_iload_n (kk := 0) (by decide +kernel) rfl ?_
  refine tq_k_ic (n := 3) (v := (3 : Int32)) (by decide +kernel) kc_3 ?_
  refine tq_k_ic (n := 2) (v := (2 : Int32)) (by decide +kernel) kc_2 ?_
  refine tq_s_iload_n (kk := 1) (by decide +kernel) rfl ?_
  refine tq_s_imul (by decide +kernel) ?_
  refine tq_s_ishl (by decide +kernel) ?_
  refine tq_k_ic (n := -1) (v := (-1 : Int32)) (by decide +kernel) kc_m1 ?_
  refine tq_s_ixor (by decide +kernel) ?_
  refine tq_s_iand (by decide +kernel) ?_
  refine tq_s_iload_n (kk := 2) (by decide +kernel) rfl ?_
  refine tq_k_ic (n := 2) (v := (2 : Int32)) (by decide +kernel) kc_2 ?_
  refine tq_s_iload_n (kk := 1) (by decide +kernel) rfl ?_
  refine tq_s_imul (by decide +kernel) ?_
  refine tq_s_ishl (by decide +kernel) ?_
  refine tq_s_ior (by decide +kernel) ?_
  exact tq_ret_i (st := []) (by decide +kernel) rfl h
def wc_X12_otherEnd_83 (B23 : Int32 → Int32 → Int32 → tq_S → Prop) (Q : tq_O → tq_S → Prop) (a0 : Int32) (a2 : Int32) (a3 : Int32) (a5 : Int32) (s0 : Int32) (s1 : Int32) (z : tq_S) : Prop := ∀ v101 : Int32, v101 = (s1 + s0) → B23 a3 v101 a5 z
theorem ac_X12_otherEnd_83 {K : Nat × (Nat → Int32)} {x : Nat} {Q : tq_O → tq_S → Prop} {B23 : Int32 → Int32 → Int32 → tq_S → Prop} {a0 : Int32} {a2 : Int32} {a3 : Int32} {a5 : Int32} {s0 : Int32} {s1 : Int32} {z : tq_S} (hB23 : ∀ (b3 : Int32) (b4 : Int32) (b5 : Int32) (z : tq_S), B23 b3 b4 b5 z → tq_T K 1 x mm_X12_otherEnd 23 [.int a0, .null, .int a2, .int b3, .int b4, .int b5] [] z Q) (h : wc_X12_otherEnd_83 B23 Q a0 a2 a3 a5 s0 s1 z) : tq_T K 1 x mm_X12_otherEnd 83 [.int a0, .null, .int a2, .int a3, .null, .int a5] [.int s0, .int s1] z Q := by
  unfold wc_X12_otherEnd_83 at h
  refine tq_s_iadd (by decide +kernel) ?_
  refine tq_g_istore (i := 4) (fun v101 => [.int a0, .null, .int a2, .int a3, .int v101, .int a5]) (by decide +kernel) (by decide) (fun _ => rfl) (fun v101 ev101 => ?_)
  replace h := h v101 ev101
  refine tq_s_goto (off := -63) (tgt := 23) (by decide +kernel) (by decide +kernel) ?_
  exact hB23 _ _ _ _ h
def wc_X12_otherEnd_69 (B23 : Int32 → Int32 → Int32 → tq_S → Prop) (Q : tq_O → tq_S → Prop) (a0 : Int32) (a2 : Int32) (a3 : Int32) (a4 : Int32) (s0 : Int32) (z : tq_S) : Prop := ((s0 = 0 → wc_X12_otherEnd_83 B23 Q a0 a2 a3 s0 (0 : Int32) a4 z) ∧ (¬ s0 = 0 → wc_X12_otherEnd_83 B23 Q a0 a2 a3 s0 a2 a4 z))
theorem ac_X12_otherEnd_69 {K : Nat × (Nat → Int32)} {x : Nat} {Q : tq_O → tq_S → Prop} {B23 : Int32 → Int32 → Int32 → tq_S → Prop} {a0 : Int32} {a2 : Int32} {a3 : Int32} {a4 : Int32} {s0 : Int32} {z : tq_S} (hB23 : ∀ (b3 : Int32) (b4 : Int32) (b5 : Int32) (z : tq_S), B23 b3 b4 b5 z → tq_T K 1 x mm_X12_otherEnd 23 [.int a0, .null, .int a2, .int b3, .int b4, .int b5] [] z Q) (h : wc_X12_otherEnd_69 B23 Q a0 a2 a3 a4 s0 z) : tq_T K 1 x mm_X12_otherEnd 69 [.int a0, .null, .int a2, .int a3, .int a4, .null] [.int s0] z Q := by
  unfold wc_X12_otherEnd_69 at h
  refine tq_s_istore (i := 5) (L9 := [.int a0, .null, .int a2, .int a3, .int a4, .int s0]) (by decide +kernel) (by decide) rfl ?_
  refine tq_s_iload (i := 4) (by decide +kernel) rfl ?_
  refine tq_s_iload (i := 5) (by decide +kernel) rfl ?_
  refine tq_if_eq (off := 7) (tgt := 82) (by decide +kernel) (by decide +kernel) (fun hc => ?_) (fun hc => ?_)
  · replace h := h.1 hc
    refine tq_k_ic (n := 0) (v := (0 : Int32)) (by decide +kernel) kc_0 ?_
    exact tq_to (tq_lk1 (tq_lk1 (tq_lk1 (tq_lk1 (tq_ld1 (tq_lk1 tq_l0)))))) (ac_X12_otherEnd_83 hB23 h)
  · replace h := h.2 hc
    refine tq_s_iload_n (kk := 2) (by decide +kernel) rfl ?_
    refine tq_s_goto (off := 4) (tgt := 83) (by decide +kernel) (by decide +kernel) ?_
    exact tq_to (tq_lk1 (tq_lk1 (tq_lk1 (tq_lk1 (tq_ld1 (tq_lk1 tq_l0)))))) (ac_X12_otherEnd_83 hB23 h)
def wc_X12_otherEnd_58 (B23 : Int32 → Int32 → Int32 → tq_S → Prop) (Q : tq_O → tq_S → Prop) (a0 : Int32) (a2 : Int32) (a4 : Int32) (s0 : Int32) (s1 : Int32) (z : tq_S) : Prop := ∀ v101 : Int32, v101 = (s1 + s0) → ((v101 = 0 → wc_X12_otherEnd_69 B23 Q a0 a2 v101 a4 (0 : Int32) z) ∧ (¬ v101 = 0 → wc_X12_otherEnd_69 B23 Q a0 a2 v101 a4 (1 : Int32) z))
theorem ac_X12_otherEnd_58 {K : Nat × (Nat → Int32)} {x : Nat} {Q : tq_O → tq_S → Prop} {B23 : Int32 → Int32 → Int32 → tq_S → Prop} {a0 : Int32} {a2 : Int32} {a4 : Int32} {s0 : Int32} {s1 : Int32} {z : tq_S} (hB23 : ∀ (b3 : Int32) (b4 : Int32) (b5 : Int32) (z : tq_S), B23 b3 b4 b5 z → tq_T K 1 x mm_X12_otherEnd 23 [.int a0, .null, .int a2, .int b3, .int b4, .int b5] [] z Q) (h : wc_X12_otherEnd_58 B23 Q a0 a2 a4 s0 s1 z) : tq_T K 1 x mm_X12_otherEnd 58 [.int a0, .null, .int a2, .null, .int a4, .null] [.int s0, .int s1] z Q := by
  unfold wc_X12_otherEnd_58 at h
  refine tq_s_iadd (by decide +kernel) ?_
  refine tq_g_istore_n (kk := 3) (fun v101 => [.int a0, .null, .int a2, .int v101, .int a4, .null]) (by decide +kernel) (by decide) (fun _ => rfl) (fun v101 ev101 => ?_)
  replace h := h v101 ev101
  refine tq_s_iload_n (kk := 3) (by decide +kernel) rfl ?_
  refine tq_if_eq (off := 7) (tgt := 68) (by decide +kernel) (by decide +kernel) (fun hc => ?_) (fun hc => ?_)
  · replace h := h.1 hc
    refine tq_k_ic (n := 0) (v := (0 : Int32)) (by decide +kernel) kc_0 ?_
    exact ac_X12_otherEnd_69 hB23 h
  · replace h := h.2 hc
    refine tq_k_ic (n := 1) (v := (1 : Int32)) (by decide +kernel) kc_1 ?_
    refine tq_s_goto (off := 4) (tgt := 69) (by decide +kernel) (by decide +kernel) ?_
    exact ac_X12_otherEnd_69 hB23 h
def wb_X12_otherEnd_23 (B23 : Int32 → Int32 → Int32 → tq_S → Prop) (Q : tq_O → tq_S → Prop) (a0 : Int32) (a2 : Int32) (a3 : Int32) (a4 : Int32) (a5 : Int32) (z : tq_S) : Prop := ((a5 = 0 → Q (.inl (some (.int a4))) z) ∧ (¬ a5 = 0 → wm_X12_plug a0 a4 z (tq_wi fun r102 z101 => ((¬ r102 = (1 : Int32) → wm_X12_plug a0 a4 z101 (tq_wi fun r104 z103 => ((¬ r104 = (2 : Int32) → wc_X12_otherEnd_58 B23 Q a0 a2 a4 (0 : Int32) a3 z103) ∧ (r104 = (2 : Int32) → wc_X12_otherEnd_58 B23 Q a0 a2 a4 (-1 : Int32) a3 z103)))) ∧ (r102 = (1 : Int32) → wc_X12_otherEnd_58 B23 Q a0 a2 a4 (1 : Int32) a3 z101)))))
def wc_X12_otherEnd_23 (Q : tq_O → tq_S → Prop) (a0 : Int32) (a2 : Int32) (a3 : Int32) (a4 : Int32) (a5 : Int32) (z : tq_S) : Prop := tq_lp (σ := Int32 × Int32 × Int32 × tq_S) (fun B s => wb_X12_otherEnd_23 (fun b3 b4 b5 z => B (b3, b4, b5, z)) Q a0 a2 s.1 s.2.1 s.2.2.1 s.2.2.2) (a3, a4, a5, z)
theorem ab_X12_otherEnd_23 {K : Nat × (Nat → Int32)} {x : Nat} {Q : tq_O → tq_S → Prop} {B23 : Int32 → Int32 → Int32 → tq_S → Prop} {a0 : Int32} {a2 : Int32} {a3 : Int32} {a4 : Int32} {a5 : Int32} {z : tq_S} (hB23 : ∀ (b3 : Int32) (b4 : Int32) (b5 : Int32) (z : tq_S), B23 b3 b4 b5 z → tq_T K 1 x mm_X12_otherEnd 23 [.int a0, .null, .int a2, .int b3, .int b4, .int b5] [] z Q) (h : wb_X12_otherEnd_23 B23 Q a0 a2 a3 a4 a5 z) : tq_T K 1 x mm_X12_otherEnd 23 [.int a0, .null, .int a2, .int a3, .int a4, .int a5] [] z Q := by
  unfold wb_X12_otherEnd_23 at h
  refine tq_s_iload (i := 5) (by decide +kernel) rfl ?_
  refine tq_if_eq (off := 64) (tgt := 89) (by decide +kernel) (by decide +kernel) (fun hc => ?_) (fun hc => ?_)
  · replace h := h.1 hc
    refine tq_s_iload (i := 4) (by decide +kernel) rfl ?_
    exact tq_ret_i (st := []) (by decide +kernel) rfl h
  · replace h := h.2 hc
    refine tq_s_iload_n (kk := 3) (by decide +kernel) rfl ?_
    refine tq_s_iload_n (kk := 0) (by decide +kernel) rfl ?_
    refine tq_s_iload (i := 4) (by decide +kernel) rfl ?_
    refine tq_callS (as := [.int a0, .int a4]) (st := [.int a3]) (d1 := 0) (x1 := 0) (x2 := x) (by decide +kernel) ln_12_455 mf_X12_plug rfl (by decide) np_X12_plug rfl (Nat.le_of_ble_eq_true rfl) (by decide) (Nat.zero_add _).symm (tq_M_mono (am_X12_plug h) ?_)
    refine tq_wi_e (fun r102 z101 h => ?_)
    refine tq_k_ic (n := 1) (v := (1 : Int32)) (by decide +kernel) kc_1 ?_
    refine tq_icmp_ne (off := 7) (tgt := 43) (by decide +kernel) (by decide +kernel) (fun hc => ?_) (fun hc => ?_)
    · replace h := h.1 hc
      refine tq_s_iload_n (kk := 0) (by decide +kernel) rfl ?_
      refine tq_s_iload (i := 4) (by decide +kernel) rfl ?_
      refine tq_callS (as := [.int a0, .int a4]) (st := [.int a3]) (d1 := 0) (x1 := 0) (x2 := x) (by decide +kernel) ln_12_455 mf_X12_plug rfl (by decide) np_X12_plug rfl (Nat.le_of_ble_eq_true rfl) (by decide) (Nat.zero_add _).symm (tq_M_mono (am_X12_plug h) ?_)
      refine tq_wi_e (fun r104 z103 h => ?_)
      refine tq_k_ic (n := 2) (v := (2 : Int32)) (by decide +kernel) kc_2 ?_
      refine tq_icmp_ne (off := 7) (tgt := 57) (by decide +kernel) (by decide +kernel) (fun hc => ?_) (fun hc => ?_)
      · replace h := h.1 hc
        refine tq_k_ic (n := 0) (v := (0 : Int32)) (by decide +kernel) kc_0 ?_
        exact tq_to (tq_lk1 (tq_lk1 (tq_lk1 (tq_ld1 (tq_lk1 (tq_ld1 tq_l0)))))) (ac_X12_otherEnd_58 hB23 h)
      · replace h := h.2 hc
        refine tq_k_ic (n := -1) (v := (-1 : Int32)) (by decide +kernel) kc_m1 ?_
        refine tq_s_goto (off := 4) (tgt := 58) (by decide +kernel) (by decide +kernel) ?_
        exact tq_to (tq_lk1 (tq_lk1 (tq_lk1 (tq_ld1 (tq_lk1 (tq_ld1 tq_l0)))))) (ac_X12_otherEnd_58 hB23 h)
    · replace h := h.2 hc
      refine tq_k_ic (n := 1) (v := (1 : Int32)) (by decide +kernel) kc_1 ?_
      refine tq_s_goto (off := 18) (tgt := 58) (by decide +kernel) (by decide +kernel) ?_
      exact tq_to (tq_lk1 (tq_lk1 (tq_lk1 (tq_ld1 (tq_lk1 (tq_ld1 tq_l0)))))) (ac_X12_otherEnd_58 hB23 h)
theorem ac_X12_otherEnd_23 {K : Nat × (Nat → Int32)} {x : Nat} {Q : tq_O → tq_S → Prop} {a0 : Int32} {a2 : Int32} {a3 : Int32} {a4 : Int32} {a5 : Int32} {z : tq_S} (h : wc_X12_otherEnd_23 Q a0 a2 a3 a4 a5 z) : tq_T K 1 x mm_X12_otherEnd 23 [.int a0, .null, .int a2, .int a3, .int a4, .int a5] [] z Q :=
  tq_lp_T (σ := Int32 × Int32 × Int32 × tq_S) (s := (a3, a4, a5, z)) (G := fun s => tq_T K 1 x mm_X12_otherEnd 23 [.int a0, .null, .int a2, .int s.1, .int s.2.1, .int s.2.2.1] [] s.2.2.2 Q) (fun B hB s h => ab_X12_otherEnd_23 (fun b3 b4 b5 z h => hB (b3, b4, b5, z) h) h) h
def wc_X12_otherEnd_14 (Q : tq_O → tq_S → Prop) (a0 : Int32) (a1 : Int32) (s0 : Int32) (z : tq_S) : Prop := wc_X12_otherEnd_23 Q a0 s0 (0 : Int32) a1 (1 : Int32) z
theorem ac_X12_otherEnd_14 {K : Nat × (Nat → Int32)} {x : Nat} {Q : tq_O → tq_S → Prop} {a0 : Int32} {a1 : Int32} {s0 : Int32} {z : tq_S} (h : wc_X12_otherEnd_14 Q a0 a1 s0 z) : tq_T K 1 x mm_X12_otherEnd 14 [.int a0, .int a1, .null, .null, .null, .null] [.int s0] z Q := by
  unfold wc_X12_otherEnd_14 at h
  refine tq_s_istore_n (kk := 2) (L9 := [.int a0, .int a1, .int s0, .null, .null, .null]) (by decide +kernel) (by decide) rfl ?_
  refine tq_k_ic (n := 0) (v := (0 : Int32)) (by decide +kernel) kc_0 ?_
  refine tq_s_istore_n (kk := 3) (L9 := [.int a0, .int a1, .int s0, .int (0 : Int32), .null, .null]) (by decide +kernel) (by decide) rfl ?_
  refine tq_s_iload_n (kk := 1) (by decide +kernel) rfl ?_
  refine tq_s_istore (i := 4) (L9 := [.int a0, .int a1, .int s0, .int (0 : Int32), .int a1, .null]) (by decide +kernel) (by decide) rfl ?_
  refine tq_k_ic (n := 1) (v := (1 : Int32)) (by decide +kernel) kc_1 ?_
  refine tq_s_istore (i := 5) (L9 := [.int a0, .int a1, .int s0, .int (0 : Int32), .int a1, .int (1 : Int32)]) (by decide +kernel) (by decide) rfl ?_
  exact tq_to (tq_lk1 (tq_ld1 (tq_lk1 (tq_lk1 (tq_lk1 (tq_lk1 tq_l0)))))) (ac_X12_otherEnd_23 h)
def wm_X12_otherEnd (a0 : Int32) (a1 : Int32) (z : tq_S) (Q : tq_O → tq_S → Prop) : Prop := wm_X12_plug a0 a1 z (tq_wi fun r2 z1 => ((¬ r2 = (1 : Int32) → wc_X12_otherEnd_14 Q a0 a1 (-1 : Int32) z1) ∧ (r2 = (1 : Int32) → wc_X12_otherEnd_14 Q a0 a1 (1 : Int32) z1)))
theorem am_X12_otherEnd {K : Nat × (Nat → Int32)} {x : Nat} {z : tq_S} {Q : tq_O → tq_S → Prop} {a0 : Int32} {a1 : Int32} (h : wm_X12_otherEnd a0 a1 z Q) : tq_M K 1 x mm_X12_otherEnd [.int a0, .int a1] z Q := by
  unfold wm_X12_otherEnd at h
  refine tq_enter (L := [.int a0, .int a1, .null, .null, .null, .null]) mf_X12_otherEnd.1 rfl rfl (Nat.le_of_ble_eq_true rfl) ?_
  refine tq_s_iload_n (kk := 0) (by decide +kernel) rfl ?_
  refine tq_s_iload_n (kk := 1) (by decide +kernel) rfl ?_
  refine tq_callS (as := [.int a0, .int a1]) (st := []) (d1 := 0) (x1 := 0) (x2 := x) (by decide +kernel) ln_12_455 mf_X12_plug rfl (by decide) np_X12_plug rfl (Nat.le_of_ble_eq_true rfl) (by decide) (Nat.zero_add _).symm (tq_M_mono (am_X12_plug h) ?_)
  refine tq_wi_e (fun r2 z1 h => ?_)
  refine tq_k_ic (n := 1) (v := (1 : Int32)) (by decide +kernel) kc_1 ?_
  refine tq_icmp_ne (off := 7) (tgt := 13) (by decide +kernel) (by decide +kernel) (fun hc => ?_) (fun hc => ?_)
  · replace h := h.1 hc
    refine tq_k_ic (n := -1) (v := (-1 : Int32)) (by decide +kernel) kc_m1 ?_
    exact ac_X12_otherEnd_14 h
  · replace h := h.2 hc
    refine tq_k_ic (n := 1) (v := (1 : Int32)) (by decide +kernel) kc_1 ?_
    refine tq_s_goto (off := 4) (tgt := 14) (by decide +kernel) (by decide +kernel) ?_
    exact ac_X12_otherEnd_14 h
def wc_X12_goOn_155 (Q : tq_O → tq_S → Prop) (a2 : Int32) (a5 : Int64) (a7 : Int32) (a8 : Int32) (a9 : Int32) (a10 : Int32) (z : tq_S) : Prop := ((a10 = 0 → Q (.inl none) z) ∧ (¬ a10 = 0 → wm_X12_with a9 (a2 + (1 : Int32)) (a7 + a8) z (tq_wi fun r102 z101 => wm_X12_add r102 a5 z101 (tq_wv fun z103 => Q (.inl none) z103))))
theorem ac_X12_goOn_155 {K : Nat × (Nat → Int32)} {x : Nat} {Q : tq_O → tq_S → Prop} {a2 : Int32} {a5 : Int64} {a7 : Int32} {a8 : Int32} {a9 : Int32} {a10 : Int32} {z : tq_S} (h : wc_X12_goOn_155 Q a2 a5 a7 a8 a9 a10 z) : tq_T K 2 x mm_X12_goOn 155 [.ref 51, .null, .int a2, .null, .null, .long a5, .null, .int a7, .int a8, .int a9, .int a10, .null] [] z Q := by
  unfold wc_X12_goOn_155 at h
  refine tq_s_iload (i := 10) (by decide +kernel) rfl ?_
  refine tq_if_eq (off := 129) (tgt := 286) (by decide +kernel) (by decide +kernel) (fun hc => ?_) (fun hc => ?_)
  · replace h := h.1 hc
    exact tq_ret_v (st := []) (by decide +kernel) rfl h
  · replace h := h.2 hc
    refine tq_s_aload_n (kk := 0) (by decide +kernel) rfl ?_
    refine tq_s_iload (i := 9) (by decide +kernel) rfl ?_
    refine tq_s_iload_n (kk := 2) (by decide +kernel) rfl ?_
    refine tq_k_ic (n := 1) (v := (1 : Int32)) (by decide +kernel) kc_1 ?_
    refine tq_s_iadd (by decide +kernel) ?_
    refine tq_s_iload (i := 7) (by decide +kernel) rfl ?_
    refine tq_s_iload (i := 8) (by decide +kernel) rfl ?_
    refine tq_s_iadd (by decide +kernel) ?_
    refine tq_callS (as := [.int a9, .int (a2 + (1 : Int32)), .int (a7 + a8)]) (st := [.ref 51]) (d1 := 0) (x1 := 0) (x2 := x) (by decide +kernel) ln_12_458 mf_X12_with rfl (by decide) np_X12_with rfl (Nat.le_of_ble_eq_true rfl) (by decide) (Nat.zero_add _).symm (tq_M_mono (am_X12_with h) ?_)
    refine tq_wi_e (fun r102 z101 h => ?_)
    refine tq_s_lload (i := 5) (by decide +kernel) rfl ?_
    refine tq_callV (as := [.int r102, .long a5]) (st := []) (d1 := 0) (x1 := 0) (x2 := x) (by decide +kernel) ln_12_461 mf_X12_add rfl sh_51 rfl (by decide) np_X12_add rfl (Nat.le_of_ble_eq_true rfl) (by decide) (Nat.zero_add _).symm (tq_M_mono (am_X12_add h) ?_)
    refine tq_wv_e (fun z103 h => ?_)
    refine tq_s_goto (off := 107) (tgt := 286) (by decide +kernel) (by decide +kernel) ?_
    exact tq_ret_v (st := []) (by decide +kernel) rfl h
def wc_X12_goOn_133 (Q : tq_O → tq_S → Prop) (a2 : Int32) (a5 : Int64) (a7 : Int32) (a8 : Int32) (a9 : Int32) (a10 : Int32) (a11 : Int32) (z : tq_S) : Prop := ((a11 = 0 → wc_X12_goOn_155 Q a2 a5 a7 a8 a9 a10 z) ∧ (¬ a11 = 0 → wm_X12_with a9 a2 (a7 + a8) z (tq_wi fun r102 z101 => wm_X12_add r102 a5 z101 (tq_wv fun z103 => wc_X12_goOn_155 Q a2 a5 a7 a8 a9 a10 z103))))
theorem ac_X12_goOn_133 {K : Nat × (Nat → Int32)} {x : Nat} {Q : tq_O → tq_S → Prop} {a2 : Int32} {a5 : Int64} {a7 : Int32} {a8 : Int32} {a9 : Int32} {a10 : Int32} {a11 : Int32} {z : tq_S} (h : wc_X12_goOn_133 Q a2 a5 a7 a8 a9 a10 a11 z) : tq_T K 2 x mm_X12_goOn 133 [.ref 51, .null, .int a2, .null, .null, .long a5, .null, .int a7, .int a8, .int a9, .int a10, .int a11] [] z Q := by
  unfold wc_X12_goOn_133 at h
  refine tq_s_iload (i := 11) (by decide +kernel) rfl ?_
  refine tq_if_eq (off := 20) (tgt := 155) (by decide +kernel) (by decide +kernel) (fun hc => ?_) (fun hc => ?_)
  · replace h := h.1 hc
    exact tq_to (tq_lk1 (tq_lk1 (tq_lk1 (tq_lk1 (tq_lk1 (tq_lk1 (tq_lk1 (tq_lk1 (tq_lk1 (tq_lk1 (tq_lk1 (tq_ld1 tq_l0)))))))))))) (ac_X12_goOn_155 h)
  · replace h := h.2 hc
    refine tq_s_aload_n (kk := 0) (by decide +kernel) rfl ?_
    refine tq_s_iload (i := 9) (by decide +kernel) rfl ?_
    refine tq_s_iload_n (kk := 2) (by decide +kernel) rfl ?_
    refine tq_s_iload (i := 7) (by decide +kernel) rfl ?_
    refine tq_s_iload (i := 8) (by decide +kernel) rfl ?_
    refine tq_s_iadd (by decide +kernel) ?_
    refine tq_callS (as := [.int a9, .int a2, .int (a7 + a8)]) (st := [.ref 51]) (d1 := 0) (x1 := 0) (x2 := x) (by decide +kernel) ln_12_458 mf_X12_with rfl (by decide) np_X12_with rfl (Nat.le_of_ble_eq_true rfl) (by decide) (Nat.zero_add _).symm (tq_M_mono (am_X12_with h) ?_)
    refine tq_wi_e (fun r102 z101 h => ?_)
    refine tq_s_lload (i := 5) (by decide +kernel) rfl ?_
    refine tq_callV (as := [.int r102, .long a5]) (st := []) (d1 := 0) (x1 := 0) (x2 := x) (by decide +kernel) ln_12_461 mf_X12_add rfl sh_51 rfl (by decide) np_X12_add rfl (Nat.le_of_ble_eq_true rfl) (by decide) (Nat.zero_add _).symm (tq_M_mono (am_X12_add h) ?_)
    refine tq_wv_e (fun z103 h => ?_)
    exact tq_to (tq_lk1 (tq_lk1 (tq_lk1 (tq_lk1 (tq_lk1 (tq_lk1 (tq_lk1 (tq_lk1 (tq_lk1 (tq_lk1 (tq_lk1 (tq_ld1 tq_l0)))))))))))) (ac_X12_goOn_155 h)
def wc_X12_goOn_248 (Q : tq_O → tq_S → Prop) (a4 : Int32) (a5 : Int64) (a7 : Int32) (a9 : Int32) (z : tq_S) : Prop := ((¬ a7 = (2 : Int32) → ((a4 = 0 → Q (.inl none) z) ∧ (¬ a4 = 0 → ((¬ a9 = 0 → Q (.inl none) z) ∧ (a9 = 0 → ∀ z101 : tq_S, z101 = tq_sfl z 3319 ((tq_fl z 3319) + a5) → Q (.inl none) z101))))) ∧ (a7 = (2 : Int32) → wm_X12_add a9 a5 z (tq_wv fun z102 => Q (.inl none) z102)))
theorem ac_X12_goOn_248 {K : Nat × (Nat → Int32)} {x : Nat} {Q : tq_O → tq_S → Prop} {a4 : Int32} {a5 : Int64} {a7 : Int32} {a9 : Int32} {z : tq_S} (h : wc_X12_goOn_248 Q a4 a5 a7 a9 z) : tq_T K 2 x mm_X12_goOn 248 [.ref 51, .null, .null, .null, .int a4, .long a5, .null, .int a7, .null, .int a9, .null, .null] [] z Q := by
  unfold wc_X12_goOn_248 at h
  refine tq_s_iload (i := 7) (by decide +kernel) rfl ?_
  refine tq_k_ic (n := 2) (v := (2 : Int32)) (by decide +kernel) kc_2 ?_
  refine tq_icmp_ne (off := 14) (tgt := 265) (by decide +kernel) (by decide +kernel) (fun hc => ?_) (fun hc => ?_)
  · replace h := h.1 hc
    refine tq_s_iload (i := 4) (by decide +kernel) rfl ?_
    refine tq_if_eq (off := 19) (tgt := 286) (by decide +kernel) (by decide +kernel) (fun hc => ?_) (fun hc => ?_)
    · replace h := h.1 hc
      exact tq_ret_v (st := []) (by decide +kernel) rfl h
    · replace h := h.2 hc
      refine tq_s_iload (i := 9) (by decide +kernel) rfl ?_
      refine tq_if_ne (off := 14) (tgt := 286) (by decide +kernel) (by decide +kernel) (fun hc => ?_) (fun hc => ?_)
      · replace h := h.1 hc
        exact tq_ret_v (st := []) (by decide +kernel) rfl h
      · replace h := h.2 hc
        refine tq_s_aload_n (kk := 0) (by decide +kernel) rfl ?_
        refine tq_s_dup (by decide +kernel) rfl ?_
        refine fg_12_467_51 rfl (by decide +kernel) ?_
        refine tq_s_lload (i := 5) (by decide +kernel) rfl ?_
        refine tq_s_ladd (by decide +kernel) ?_
        refine fp_12_467_51 rfl (by decide +kernel) (fun z101 ez101 => ?_)
        replace h := h z101 ez101
        exact tq_ret_v (st := []) (by decide +kernel) rfl h
  · replace h := h.2 hc
    refine tq_s_aload_n (kk := 0) (by decide +kernel) rfl ?_
    refine tq_s_iload (i := 9) (by decide +kernel) rfl ?_
    refine tq_s_lload (i := 5) (by decide +kernel) rfl ?_
    refine tq_callV (as := [.int a9, .long a5]) (st := []) (d1 := 0) (x1 := 0) (x2 := x) (by decide +kernel) ln_12_461 mf_X12_add rfl sh_51 rfl (by decide) np_X12_add rfl (Nat.le_of_ble_eq_true rfl) (by decide) (Nat.zero_add _).symm (tq_M_mono (am_X12_add h) ?_)
    refine tq_wv_e (fun z102 h => ?_)
    refine tq_s_goto (off := 24) (tgt := 286) (by decide +kernel) (by decide +kernel) ?_
    exact tq_ret_v (st := []) (by decide +kernel) rfl h
def wc_X12_goOn_216 (Q : tq_O → tq_S → Prop) (a1 : Int32) (a2 : Int32) (a4 : Int32) (a5 : Int64) (a7 : Int32) (a8 : Int32) (a9 : Int32) (z : tq_S) : Prop := ((¬ a7 = (2 : Int32) → wc_X12_goOn_248 Q a4 a5 a7 a9 z) ∧ (a7 = (2 : Int32) → ((¬ a8 = (2 : Int32) → wc_X12_goOn_248 Q a4 a5 a7 a9 z) ∧ (a8 = (2 : Int32) → wm_X12_otherEnd a1 a2 z (tq_wi fun r102 z101 => wm_X12_with a9 r102 (2 : Int32) z101 (tq_wi fun r104 z103 => wm_X12_add r104 a5 z103 (tq_wv fun z105 => Q (.inl none) z105)))))))
theorem ac_X12_goOn_216 {K : Nat × (Nat → Int32)} {x : Nat} {Q : tq_O → tq_S → Prop} {a1 : Int32} {a2 : Int32} {a4 : Int32} {a5 : Int64} {a7 : Int32} {a8 : Int32} {a9 : Int32} {z : tq_S} (h : wc_X12_goOn_216 Q a1 a2 a4 a5 a7 a8 a9 z) : tq_T K 2 x mm_X12_goOn 216 [.ref 51, .int a1, .int a2, .null, .int a4, .long a5, .null, .int a7, .int a8, .int a9, .null, .null] [] z Q := by
  unfold wc_X12_goOn_216 at h
  refine tq_s_iload (i := 7) (by decide +kernel) rfl ?_
  refine tq_k_ic (n := 2) (v := (2 : Int32)) (by decide +kernel) kc_2 ?_
  refine tq_icmp_ne (off := 29) (tgt := 248) (by decide +kernel) (by decide +kernel) (fun hc => ?_) (fun hc => ?_)
  · replace h := h.1 hc
    exact tq_to (tq_lk1 (tq_ld1 (tq_ld1 (tq_lk1 (tq_lk1 (tq_lk1 (tq_lk1 (tq_lk1 (tq_ld1 (tq_lk1 (tq_lk1 (tq_lk1 tq_l0)))))))))))) (ac_X12_goOn_248 h)
  · replace h := h.2 hc
    refine tq_s_iload (i := 8) (by decide +kernel) rfl ?_
    refine tq_k_ic (n := 2) (v := (2 : Int32)) (by decide +kernel) kc_2 ?_
    refine tq_icmp_ne (off := 23) (tgt := 248) (by decide +kernel) (by decide +kernel) (fun hc => ?_) (fun hc => ?_)
    · replace h := h.1 hc
      exact tq_to (tq_lk1 (tq_ld1 (tq_ld1 (tq_lk1 (tq_lk1 (tq_lk1 (tq_lk1 (tq_lk1 (tq_ld1 (tq_lk1 (tq_lk1 (tq_lk1 tq_l0)))))))))))) (ac_X12_goOn_248 h)
    · replace h := h.2 hc
      refine tq_s_aload_n (kk := 0) (by decide +kernel) rfl ?_
      refine tq_s_iload (i := 9) (by decide +kernel) rfl ?_
      refine tq_s_iload_n (kk := 1) (by decide +kernel) rfl ?_
      refine tq_s_iload_n (kk := 2) (by decide +kernel) rfl ?_
      refine tq_callS (as := [.int a1, .int a2]) (st := [.int a9, .ref 51]) (d1 := 1) (x1 := 0) (x2 := x) (by decide +kernel) ln_12_464 mf_X12_otherEnd rfl (by decide) np_X12_otherEnd rfl (Nat.le_of_ble_eq_true rfl) (by decide) (Nat.zero_add _).symm (tq_M_mono (am_X12_otherEnd h) ?_)
      refine tq_wi_e (fun r102 z101 h => ?_)
      refine tq_k_ic (n := 2) (v := (2 : Int32)) (by decide +kernel) kc_2 ?_
      refine tq_callS (as := [.int a9, .int r102, .int (2 : Int32)]) (st := [.ref 51]) (d1 := 0) (x1 := 0) (x2 := x) (by decide +kernel) ln_12_458 mf_X12_with rfl (by decide) np_X12_with rfl (Nat.le_of_ble_eq_true rfl) (by decide) (Nat.zero_add _).symm (tq_M_mono (am_X12_with h) ?_)
      refine tq_wi_e (fun r104 z103 h => ?_)
      refine tq_s_lload (i := 5) (by decide +kernel) rfl ?_
      refine tq_callV (as := [.int r104, .long a5]) (st := []) (d1 := 0) (x1 := 0) (x2 := x) (by decide +kernel) ln_12_461 mf_X12_add rfl sh_51 rfl (by decide) np_X12_add rfl (Nat.le_of_ble_eq_true rfl) (by decide) (Nat.zero_add _).symm (tq_M_mono (am_X12_add h) ?_)
      refine tq_wv_e (fun z105 h => ?_)
      refine tq_s_goto (off := 41) (tgt := 286) (by decide +kernel) (by decide +kernel) ?_
      exact tq_ret_v (st := []) (by decide +kernel) rfl h
def wc_X12_goOn_123 (Q : tq_O → tq_S → Prop) (a1 : Int32) (a2 : Int32) (a4 : Int32) (a5 : Int64) (a7 : Int32) (a8 : Int32) (a9 : Int32) (a10 : Int32) (a11 : Int32) (z : tq_S) : Prop := ((a7 = 0 → wc_X12_goOn_133 Q a2 a5 a7 a8 a9 a10 a11 z) ∧ (¬ a7 = 0 → ((¬ a8 = 0 → ((¬ a7 = (1 : Int32) → wc_X12_goOn_216 Q a1 a2 a4 a5 a7 a8 a9 z) ∧ (a7 = (1 : Int32) → ((¬ a8 = (1 : Int32) → wc_X12_goOn_216 Q a1 a2 a4 a5 a7 a8 a9 z) ∧ (a8 = (1 : Int32) → wm_X12_otherEnd a1 (a2 + (1 : Int32)) z (tq_wi fun r102 z101 => wm_X12_with a9 r102 (1 : Int32) z101 (tq_wi fun r104 z103 => wm_X12_add r104 a5 z103 (tq_wv fun z105 => Q (.inl none) z105)))))))) ∧ (a8 = 0 → wc_X12_goOn_133 Q a2 a5 a7 a8 a9 a10 a11 z))))
theorem ac_X12_goOn_123 {K : Nat × (Nat → Int32)} {x : Nat} {Q : tq_O → tq_S → Prop} {a1 : Int32} {a2 : Int32} {a4 : Int32} {a5 : Int64} {a7 : Int32} {a8 : Int32} {a9 : Int32} {a10 : Int32} {a11 : Int32} {z : tq_S} (h : wc_X12_goOn_123 Q a1 a2 a4 a5 a7 a8 a9 a10 a11 z) : tq_T K 2 x mm_X12_goOn 123 [.ref 51, .int a1, .int a2, .null, .int a4, .long a5, .null, .int a7, .int a8, .int a9, .int a10, .int a11] [] z Q := by
  unfold wc_X12_goOn_123 at h
  refine tq_s_iload (i := 7) (by decide +kernel) rfl ?_
  refine tq_if_eq (off := 8) (tgt := 133) (by decide +kernel) (by decide +kernel) (fun hc => ?_) (fun hc => ?_)
  · replace h := h.1 hc
    exact tq_to (tq_lk1 (tq_ld1 (tq_lk1 (tq_lk1 (tq_ld1 (tq_lk1 (tq_lk1 (tq_lk1 (tq_lk1 (tq_lk1 (tq_lk1 (tq_lk1 tq_l0)))))))))))) (ac_X12_goOn_133 h)
  · replace h := h.2 hc
    refine tq_s_iload (i := 8) (by decide +kernel) rfl ?_
    refine tq_if_ne (off := 52) (tgt := 182) (by decide +kernel) (by decide +kernel) (fun hc => ?_) (fun hc => ?_)
    · replace h := h.1 hc
      refine tq_s_iload (i := 7) (by decide +kernel) rfl ?_
      refine tq_k_ic (n := 1) (v := (1 : Int32)) (by decide +kernel) kc_1 ?_
      refine tq_icmp_ne (off := 31) (tgt := 216) (by decide +kernel) (by decide +kernel) (fun hc => ?_) (fun hc => ?_)
      · replace h := h.1 hc
        exact tq_to (tq_lk1 (tq_lk1 (tq_lk1 (tq_lk1 (tq_lk1 (tq_lk1 (tq_lk1 (tq_lk1 (tq_lk1 (tq_lk1 (tq_ld1 (tq_ld1 tq_l0)))))))))))) (ac_X12_goOn_216 h)
      · replace h := h.2 hc
        refine tq_s_iload (i := 8) (by decide +kernel) rfl ?_
        refine tq_k_ic (n := 1) (v := (1 : Int32)) (by decide +kernel) kc_1 ?_
        refine tq_icmp_ne (off := 25) (tgt := 216) (by decide +kernel) (by decide +kernel) (fun hc => ?_) (fun hc => ?_)
        · replace h := h.1 hc
          exact tq_to (tq_lk1 (tq_lk1 (tq_lk1 (tq_lk1 (tq_lk1 (tq_lk1 (tq_lk1 (tq_lk1 (tq_lk1 (tq_lk1 (tq_ld1 (tq_ld1 tq_l0)))))))))))) (ac_X12_goOn_216 h)
        · replace h := h.2 hc
          refine tq_s_aload_n (kk := 0) (by decide +kernel) rfl ?_
          refine tq_s_iload (i := 9) (by decide +kernel) rfl ?_
          refine tq_s_iload_n (kk := 1) (by decide +kernel) rfl ?_
          refine tq_s_iload_n (kk := 2) (by decide +kernel) rfl ?_
          refine tq_k_ic (n := 1) (v := (1 : Int32)) (by decide +kernel) kc_1 ?_
          refine tq_s_iadd (by decide +kernel) ?_
          refine tq_callS (as := [.int a1, .int (a2 + (1 : Int32))]) (st := [.int a9, .ref 51]) (d1 := 1) (x1 := 0) (x2 := x) (by decide +kernel) ln_12_464 mf_X12_otherEnd rfl (by decide) np_X12_otherEnd rfl (Nat.le_of_ble_eq_true rfl) (by decide) (Nat.zero_add _).symm (tq_M_mono (am_X12_otherEnd h) ?_)
          refine tq_wi_e (fun r102 z101 h => ?_)
          refine tq_k_ic (n := 1) (v := (1 : Int32)) (by decide +kernel) kc_1 ?_
          refine tq_callS (as := [.int a9, .int r102, .int (1 : Int32)]) (st := [.ref 51]) (d1 := 0) (x1 := 0) (x2 := x) (by decide +kernel) ln_12_458 mf_X12_with rfl (by decide) np_X12_with rfl (Nat.le_of_ble_eq_true rfl) (by decide) (Nat.zero_add _).symm (tq_M_mono (am_X12_with h) ?_)
          refine tq_wi_e (fun r104 z103 h => ?_)
          refine tq_s_lload (i := 5) (by decide +kernel) rfl ?_
          refine tq_callV (as := [.int r104, .long a5]) (st := []) (d1 := 0) (x1 := 0) (x2 := x) (by decide +kernel) ln_12_461 mf_X12_add rfl sh_51 rfl (by decide) np_X12_add rfl (Nat.le_of_ble_eq_true rfl) (by decide) (Nat.zero_add _).symm (tq_M_mono (am_X12_add h) ?_)
          refine tq_wv_e (fun z105 h => ?_)
          refine tq_s_goto (off := 73) (tgt := 286) (by decide +kernel) (by decide +kernel) ?_
          exact tq_ret_v (st := []) (by decide +kernel) rfl h
    · replace h := h.2 hc
      exact tq_to (tq_lk1 (tq_ld1 (tq_lk1 (tq_lk1 (tq_ld1 (tq_lk1 (tq_lk1 (tq_lk1 (tq_lk1 (tq_lk1 (tq_lk1 (tq_lk1 tq_l0)))))))))))) (ac_X12_goOn_133 h)
def wm_X12_goOn (a1 : Int32) (a2 : Int32) (a3 : Int32) (a4 : Int32) (a5 : Int64) (z : tq_S) (Q : tq_O → tq_S → Prop) : Prop := wm_X12_plug a1 a2 z (tq_wi fun r2 z1 => wm_X12_plug a1 (a2 + (1 : Int32)) z1 (tq_wi fun r4 z3 => wm_X12_with a1 a2 (0 : Int32) z3 (tq_wi fun r6 z5 => wm_X12_with r6 (a2 + (1 : Int32)) (0 : Int32) z5 (tq_wi fun r8 z7 => wm_X12_isCell (a2 + (1 : Int32)) a3 z7 (tq_wi fun r10 z9 => wm_X12_isCell a2 (a3 + (1 : Int32)) z9 (tq_wi fun r12 z11 => wm_X12_isCell a2 a3 z11 (tq_wi fun r14 z13 => ((¬ r14 = 0 → ((¬ r2 = 0 → wc_X12_goOn_123 Q a1 a2 a4 a5 r2 r4 r8 r10 r12 z13) ∧ (r2 = 0 → ((¬ r4 = 0 → wc_X12_goOn_123 Q a1 a2 a4 a5 r2 r4 r8 r10 r12 z13) ∧ (r4 = 0 → ((r10 = 0 → Q (.inl none) z13) ∧ (¬ r10 = 0 → ((r12 = 0 → Q (.inl none) z13) ∧ (¬ r12 = 0 → wm_X12_with r8 a2 (1 : Int32) z13 (tq_wi fun r16 z15 => wm_X12_with r16 (a2 + (1 : Int32)) (2 : Int32) z15 (tq_wi fun r18 z17 => wm_X12_add r18 a5 z17 (tq_wv fun z19 => Q (.inl none) z19)))))))))))) ∧ (r14 = 0 → ((¬ r2 = 0 → Q (.inl none) z13) ∧ (r2 = 0 → ((¬ r4 = 0 → Q (.inl none) z13) ∧ (r4 = 0 → wm_X12_add a1 a5 z13 (tq_wv fun z20 => Q (.inl none) z20))))))))))))))
theorem am_X12_goOn {K : Nat × (Nat → Int32)} {x : Nat} {z : tq_S} {Q : tq_O → tq_S → Prop} {a1 : Int32} {a2 : Int32} {a3 : Int32} {a4 : Int32} {a5 : Int64} (h : wm_X12_goOn a1 a2 a3 a4 a5 z Q) : tq_M K 2 x mm_X12_goOn [.ref 51, .int a1, .int a2, .int a3, .int a4, .long a5] z Q := by
  unfold wm_X12_goOn at h
  refine tq_enter (L := [.ref 51, .int a1, .int a2, .int a3, .int a4, .long a5, .null, .null, .null, .null, .null, .null]) mf_X12_goOn.1 rfl rfl (Nat.le_of_ble_eq_true rfl) ?_
  refine tq_s_iload_n (kk := 1) (by decide +kernel) rfl ?_
  refine tq_s_iload_n (kk := 2) (by decide +kernel) rfl ?_
  refine tq_callS (as := [.int a1, .int a2]) (st := []) (d1 := 0) (x1 := 0) (x2 := x) (by decide +kernel) ln_12_455 mf_X12_plug rfl (by decide) np_X12_plug rfl (Nat.le_of_ble_eq_true rfl) (by decide) (Nat.zero_add _).symm (tq_M_mono (am_X12_plug h) ?_)
  refine tq_wi_e (fun r2 z1 h => ?_)
  refine tq_s_istore (i := 7) (L9 := [.ref 51, .int a1, .int a2, .int a3, .int a4, .long a5, .null, .int r2, .null, .null, .null, .null]) (by decide +kernel) (by decide) rfl ?_
  refine tq_s_iload_n (kk := 1) (by decide +kernel) rfl ?_
  refine tq_s_iload_n (kk := 2) (by decide +kernel) rfl ?_
  refine tq_k_ic (n := 1) (v := (1 : Int32)) (by decide +kernel) kc_1 ?_
  refine tq_s_iadd (by decide +kernel) ?_
  refine tq_callS (as := [.int a1, .int (a2 + (1 : Int32))]) (st := []) (d1 := 0) (x1 := 0) (x2 := x) (by decide +kernel) ln_12_455 mf_X12_plug rfl (by decide) np_X12_plug rfl (Nat.le_of_ble_eq_true rfl) (by decide) (Nat.zero_add _).symm (tq_M_mono (am_X12_plug h) ?_)
  refine tq_wi_e (fun r4 z3 h => ?_)
  refine tq_s_istore (i := 8) (L9 := [.ref 51, .int a1, .int a2, .int a3, .int a4, .long a5, .null, .int r2, .int r4, .null, .null, .null]) (by decide +kernel) (by decide) rfl ?_
  refine tq_s_iload_n (kk := 1) (by decide +kernel) rfl ?_
  refine tq_s_iload_n (kk := 2) (by decide +kernel) rfl ?_
  refine tq_k_ic (n := 0) (v := (0 : Int32)) (by decide +kernel) kc_0 ?_
  refine tq_callS (as := [.int a1, .int a2, .int (0 : Int32)]) (st := []) (d1 := 0) (x1 := 0) (x2 := x) (by decide +kernel) ln_12_458 mf_X12_with rfl (by decide) np_X12_with rfl (Nat.le_of_ble_eq_true rfl) (by decide) (Nat.zero_add _).symm (tq_M_mono (am_X12_with h) ?_)
  refine tq_wi_e (fun r6 z5 h => ?_)
  refine tq_s_iload_n (kk := 2) (by decide +kernel) rfl ?_
  refine tq_k_ic (n := 1) (v := (1 : Int32)) (by decide +kernel) kc_1 ?_
  refine tq_s_iadd (by decide +kernel) ?_
  refine tq_k_ic (n := 0) (v := (0 : Int32)) (by decide +kernel) kc_0 ?_
  refine tq_callS (as := [.int r6, .int (a2 + (1 : Int32)), .int (0 : Int32)]) (st := []) (d1 := 0) (x1 := 0) (x2 := x) (by decide +kernel) ln_12_458 mf_X12_with rfl (by decide) np_X12_with rfl (Nat.le_of_ble_eq_true rfl) (by decide) (Nat.zero_add _).symm (tq_M_mono (am_X12_with h) ?_)
  refine tq_wi_e (fun r8 z7 h => ?_)
  refine tq_s_istore (i := 9) (L9 := [.ref 51, .int a1, .int a2, .int a3, .int a4, .long a5, .null, .int r2, .int r4, .int r8, .null, .null]) (by decide +kernel) (by decide) rfl ?_
  refine tq_s_aload_n (kk := 0) (by decide +kernel) rfl ?_
  refine tq_s_iload_n (kk := 2) (by decide +kernel) rfl ?_
  refine tq_k_ic (n := 1) (v := (1 : Int32)) (by decide +kernel) kc_1 ?_
  refine tq_s_iadd (by decide +kernel) ?_
  refine tq_s_iload_n (kk := 3) (by decide +kernel) rfl ?_
  refine tq_callV (as := [.int (a2 + (1 : Int32)), .int a3]) (st := []) (d1 := 1) (x1 := 0) (x2 := x) (by decide +kernel) ln_12_164 mf_X12_isCell rfl sh_51 rfl (by decide) np_X12_isCell rfl (Nat.le_of_ble_eq_true rfl) (by decide) (Nat.zero_add _).symm (tq_M_mono (am_X12_isCell h) ?_)
  refine tq_wi_e (fun r10 z9 h => ?_)
  refine tq_s_istore (i := 10) (L9 := [.ref 51, .int a1, .int a2, .int a3, .int a4, .long a5, .null, .int r2, .int r4, .int r8, .int r10, .null]) (by decide +kernel) (by decide) rfl ?_
  refine tq_s_aload_n (kk := 0) (by decide +kernel) rfl ?_
  refine tq_s_iload_n (kk := 2) (by decide +kernel) rfl ?_
  refine tq_s_iload_n (kk := 3) (by decide +kernel) rfl ?_
  refine tq_k_ic (n := 1) (v := (1 : Int32)) (by decide +kernel) kc_1 ?_
  refine tq_s_iadd (by decide +kernel) ?_
  refine tq_callV (as := [.int a2, .int (a3 + (1 : Int32))]) (st := []) (d1 := 1) (x1 := 0) (x2 := x) (by decide +kernel) ln_12_164 mf_X12_isCell rfl sh_51 rfl (by decide) np_X12_isCell rfl (Nat.le_of_ble_eq_true rfl) (by decide) (Nat.zero_add _).symm (tq_M_mono (am_X12_isCell h) ?_)
  refine tq_wi_e (fun r12 z11 h => ?_)
  refine tq_s_istore (i := 11) (L9 := [.ref 51, .int a1, .int a2, .int a3, .int a4, .long a5, .null, .int r2, .int r4, .int r8, .int r10, .int r12]) (by decide +kernel) (by decide) rfl ?_
  refine tq_s_aload_n (kk := 0) (by decide +kernel) rfl ?_
  refine tq_s_iload_n (kk := 2) (by decide +kernel) rfl ?_
  refine tq_s_iload_n (kk := 3) (by decide +kernel) rfl ?_
  refine tq_callV (as := [.int a2, .int a3]) (st := []) (d1 := 1) (x1 := 0) (x2 := x) (by decide +kernel) ln_12_164 mf_X12_isCell rfl sh_51 rfl (by decide) np_X12_isCell rfl (Nat.le_of_ble_eq_true rfl) (by decide) (Nat.zero_add _).symm (tq_M_mono (am_X12_isCell h) ?_)
  refine tq_wi_e (fun r14 z13 h => ?_)
  refine tq_if_ne (off := 23) (tgt := 80) (by decide +kernel) (by decide +kernel) (fun hc => ?_) (fun hc => ?_)
  · replace h := h.1 hc
    refine tq_s_iload (i := 7) (by decide +kernel) rfl ?_
    refine tq_if_ne (off := 41) (tgt := 123) (by decide +kernel) (by decide +kernel) (fun hc => ?_) (fun hc => ?_)
    · replace h := h.1 hc
      exact tq_to (tq_lk1 (tq_lk1 (tq_lk1 (tq_ld1 (tq_lk1 (tq_lk1 (tq_lk1 (tq_lk1 (tq_lk1 (tq_lk1 (tq_lk1 (tq_lk1 tq_l0)))))))))))) (ac_X12_goOn_123 h)
    · replace h := h.2 hc
      refine tq_s_iload (i := 8) (by decide +kernel) rfl ?_
      refine tq_if_ne (off := 36) (tgt := 123) (by decide +kernel) (by decide +kernel) (fun hc => ?_) (fun hc => ?_)
      · replace h := h.1 hc
        exact tq_to (tq_lk1 (tq_lk1 (tq_lk1 (tq_ld1 (tq_lk1 (tq_lk1 (tq_lk1 (tq_lk1 (tq_lk1 (tq_lk1 (tq_lk1 (tq_lk1 tq_l0)))))))))))) (ac_X12_goOn_123 h)
      · replace h := h.2 hc
        refine tq_s_iload (i := 10) (by decide +kernel) rfl ?_
        refine tq_if_eq (off := 194) (tgt := 286) (by decide +kernel) (by decide +kernel) (fun hc => ?_) (fun hc => ?_)
        · replace h := h.1 hc
          exact tq_ret_v (st := []) (by decide +kernel) rfl h
        · replace h := h.2 hc
          refine tq_s_iload (i := 11) (by decide +kernel) rfl ?_
          refine tq_if_eq (off := 189) (tgt := 286) (by decide +kernel) (by decide +kernel) (fun hc => ?_) (fun hc => ?_)
          · replace h := h.1 hc
            exact tq_ret_v (st := []) (by decide +kernel) rfl h
          · replace h := h.2 hc
            refine tq_s_aload_n (kk := 0) (by decide +kernel) rfl ?_
            refine tq_s_iload (i := 9) (by decide +kernel) rfl ?_
            refine tq_s_iload_n (kk := 2) (by decide +kernel) rfl ?_
            refine tq_k_ic (n := 1) (v := (1 : Int32)) (by decide +kernel) kc_1 ?_
            refine tq_callS (as := [.int r8, .int a2, .int (1 : Int32)]) (st := [.ref 51]) (d1 := 0) (x1 := 0) (x2 := x) (by decide +kernel) ln_12_458 mf_X12_with rfl (by decide) np_X12_with rfl (Nat.le_of_ble_eq_true rfl) (by decide) (Nat.zero_add _).symm (tq_M_mono (am_X12_with h) ?_)
            refine tq_wi_e (fun r16 z15 h => ?_)
            refine tq_s_iload_n (kk := 2) (by decide +kernel) rfl ?_
            refine tq_k_ic (n := 1) (v := (1 : Int32)) (by decide +kernel) kc_1 ?_
            refine tq_s_iadd (by decide +kernel) ?_
            refine tq_k_ic (n := 2) (v := (2 : Int32)) (by decide +kernel) kc_2 ?_
            refine tq_callS (as := [.int r16, .int (a2 + (1 : Int32)), .int (2 : Int32)]) (st := [.ref 51]) (d1 := 0) (x1 := 0) (x2 := x) (by decide +kernel) ln_12_458 mf_X12_with rfl (by decide) np_X12_with rfl (Nat.le_of_ble_eq_true rfl) (by decide) (Nat.zero_add _).symm (tq_M_mono (am_X12_with h) ?_)
            refine tq_wi_e (fun r18 z17 h => ?_)
            refine tq_s_lload (i := 5) (by decide +kernel) rfl ?_
            refine tq_callV (as := [.int r18, .long a5]) (st := []) (d1 := 0) (x1 := 0) (x2 := x) (by decide +kernel) ln_12_461 mf_X12_add rfl sh_51 rfl (by decide) np_X12_add rfl (Nat.le_of_ble_eq_true rfl) (by decide) (Nat.zero_add _).symm (tq_M_mono (am_X12_add h) ?_)
            refine tq_wv_e (fun z19 h => ?_)
            refine tq_s_goto (off := 166) (tgt := 286) (by decide +kernel) (by decide +kernel) ?_
            exact tq_ret_v (st := []) (by decide +kernel) rfl h
  · replace h := h.2 hc
    refine tq_s_iload (i := 7) (by decide +kernel) rfl ?_
    refine tq_if_ne (off := 224) (tgt := 286) (by decide +kernel) (by decide +kernel) (fun hc => ?_) (fun hc => ?_)
    · replace h := h.1 hc
      exact tq_ret_v (st := []) (by decide +kernel) rfl h
    · replace h := h.2 hc
      refine tq_s_iload (i := 8) (by decide +kernel) rfl ?_
      refine tq_if_ne (off := 219) (tgt := 286) (by decide +kernel) (by decide +kernel) (fun hc => ?_) (fun hc => ?_)
      · replace h := h.1 hc
        exact tq_ret_v (st := []) (by decide +kernel) rfl h
      · replace h := h.2 hc
        refine tq_s_aload_n (kk := 0) (by decide +kernel) rfl ?_
        refine tq_s_iload_n (kk := 1) (by decide +kernel) rfl ?_
        refine tq_s_lload (i := 5) (by decide +kernel) rfl ?_
        refine tq_callV (as := [.int a1, .long a5]) (st := []) (d1 := 0) (x1 := 0) (x2 := x) (by decide +kernel) ln_12_461 mf_X12_add rfl sh_51 rfl (by decide) np_X12_add rfl (Nat.le_of_ble_eq_true rfl) (by decide) (Nat.zero_add _).symm (tq_M_mono (am_X12_add h) ?_)
        refine tq_wv_e (fun z20 h => ?_)
        refine tq_s_goto (off := 209) (tgt := 286) (by decide +kernel) (by decide +kernel) ?_
        exact tq_ret_v (st := []) (by decide +kernel) rfl h
def wc_X12_loops_55 (B35 : Int32 → Int32 → tq_S → Prop) (Q : tq_O → tq_S → Prop) (a2 : Int32) (s0 : Int32) (z : tq_S) : Prop := ∀ v101 : Int32, v101 = a2 + (1 : Int32) → B35 s0 v101 z
theorem ac_X12_loops_55 {K : Nat × (Nat → Int32)} {x : Nat} {Q : tq_O → tq_S → Prop} {B35 : Int32 → Int32 → tq_S → Prop} {a2 : Int32} {s0 : Int32} {z : tq_S} (hB35 : ∀ (b1 : Int32) (b2 : Int32) (z : tq_S), B35 b1 b2 z → tq_T K 42 x mm_X12_loops 35 [.ref 51, .int b1, .int b2, .null, .null, .null] [] z Q) (h : wc_X12_loops_55 B35 Q a2 s0 z) : tq_T K 42 x mm_X12_loops 55 [.ref 51, .null, .int a2, .null, .null, .null] [.int s0] z Q := by
  unfold wc_X12_loops_55 at h
  refine tq_s_istore_n (kk := 1) (L9 := [.ref 51, .int s0, .int a2, .null, .null, .null]) (by decide +kernel) (by decide) rfl ?_
  refine tq_g_iinc (i := 2) (fun v101 => [.ref 51, .int s0, .int v101, .null, .null, .null]) (by decide +kernel) rfl (1 : Int32) kc_1 (fun _ => rfl) (fun v101 ev101 => ?_)
  replace h := h v101 ev101
  refine tq_s_goto (off := -24) (tgt := 35) (by decide +kernel) (by decide +kernel) ?_
  exact hB35 _ _ _ h
def wc_X12_loops_99 (B80 : Int32 → tq_S → Prop) (Q : tq_O → tq_S → Prop) (a1 : Int32) (a2 : Int32) (a3 : Int32) (s0 : Int64) (s1 : Int32) (z : tq_S) : Prop := vp_in s1 262144 ∧ ∀ z101 : tq_S, z101 = tq_sal z 85 (vp_updL (tq_al z 85) (Int32.toNatClampNeg s1) s0) → ∀ v102 : Int32, v102 = a3 + (1 : Int32) → B80 v102 z101
theorem ac_X12_loops_99 {K : Nat × (Nat → Int32)} {x : Nat} {Q : tq_O → tq_S → Prop} {B80 : Int32 → tq_S → Prop} {a1 : Int32} {a2 : Int32} {a3 : Int32} {s0 : Int64} {s1 : Int32} {z : tq_S} (hB80 : ∀ (b3 : Int32) (z : tq_S), B80 b3 z → tq_T K 42 x mm_X12_loops 80 [.ref 51, .int a1, .int a2, .int b3, .null, .null] [] z Q) (h : wc_X12_loops_99 B80 Q a1 a2 a3 s0 s1 z) : tq_T K 42 x mm_X12_loops 99 [.ref 51, .int a1, .int a2, .int a3, .null, .null] [.long s0, .int s1, .ref 85] z Q := by
  unfold wc_X12_loops_99 at h
  refine tq_g_last (by decide +kernel) sh_85 h.1 (fun z101 ez101 => ?_)
  replace h := h.2 z101 ez101
  refine tq_g_iinc (i := 3) (fun v102 => [.ref 51, .int a1, .int a2, .int v102, .null, .null]) (by decide +kernel) rfl (1 : Int32) kc_1 (fun _ => rfl) (fun v102 ev102 => ?_)
  replace h := h v102 ev102
  refine tq_s_goto (off := -23) (tgt := 80) (by decide +kernel) (by decide +kernel) ?_
  exact hB80 _ _ h
def wc_X12_loops_152 (B108 : Int32 → tq_S → Prop) (B121 : Int32 → tq_S → Prop) (Q : tq_O → tq_S → Prop) (a1 : Int32) (a2 : Int32) (a3 : Int32) (a4 : Int32) (s0 : Int64) (s1 : Int32) (z : tq_S) : Prop := vp_in s1 262144 ∧ ∀ z101 : tq_S, z101 = tq_sal z 85 (vp_updL (tq_al z 85) (Int32.toNatClampNeg s1) s0) → ∀ v102 : Int32, v102 = a4 + (-1 : Int32) → B121 v102 z101
theorem ac_X12_loops_152 {K : Nat × (Nat → Int32)} {x : Nat} {Q : tq_O → tq_S → Prop} {B108 : Int32 → tq_S → Prop} {B121 : Int32 → tq_S → Prop} {a1 : Int32} {a2 : Int32} {a3 : Int32} {a4 : Int32} {s0 : Int64} {s1 : Int32} {z : tq_S} (hB108 : ∀ (b3 : Int32) (z : tq_S), B108 b3 z → tq_T K 42 x mm_X12_loops 108 [.ref 51, .int a1, .int a2, .int b3, .null, .null] [] z Q) (hB121 : ∀ (b4 : Int32) (z : tq_S), B121 b4 z → tq_T K 42 x mm_X12_loops 121 [.ref 51, .int a1, .int a2, .int a3, .int b4, .null] [] z Q) (h : wc_X12_loops_152 B108 B121 Q a1 a2 a3 a4 s0 s1 z) : tq_T K 42 x mm_X12_loops 152 [.ref 51, .int a1, .int a2, .int a3, .int a4, .null] [.long s0, .int s1, .ref 85] z Q := by
  unfold wc_X12_loops_152 at h
  refine tq_g_last (by decide +kernel) sh_85 h.1 (fun z101 ez101 => ?_)
  replace h := h.2 z101 ez101
  refine tq_g_iinc (i := 4) (fun v102 => [.ref 51, .int a1, .int a2, .int a3, .int v102, .null]) (by decide +kernel) rfl (-1 : Int32) kc_m1 (fun _ => rfl) (fun v102 ev102 => ?_)
  replace h := h v102 ev102
  refine tq_s_goto (off := -35) (tgt := 121) (by decide +kernel) (by decide +kernel) ?_
  exact hB121 _ _ h
def wc_X12_loops_247 (B108 : Int32 → tq_S → Prop) (B162 : Int32 → tq_S → Prop) (B197 : Int32 → tq_S → Prop) (Q : tq_O → tq_S → Prop) (a1 : Int32) (a2 : Int32) (a3 : Int32) (a4 : Int32) (a5 : Int32) (z : tq_S) : Prop := ∀ v101 : Int32, v101 = a5 + (1 : Int32) → B197 v101 z
theorem ac_X12_loops_247 {K : Nat × (Nat → Int32)} {x : Nat} {Q : tq_O → tq_S → Prop} {B108 : Int32 → tq_S → Prop} {B162 : Int32 → tq_S → Prop} {B197 : Int32 → tq_S → Prop} {a1 : Int32} {a2 : Int32} {a3 : Int32} {a4 : Int32} {a5 : Int32} {z : tq_S} (hB108 : ∀ (b3 : Int32) (z : tq_S), B108 b3 z → tq_T K 42 x mm_X12_loops 108 [.ref 51, .int a1, .int a2, .int b3, .null, .null] [] z Q) (hB162 : ∀ (b4 : Int32) (z : tq_S), B162 b4 z → tq_T K 42 x mm_X12_loops 162 [.ref 51, .int a1, .int a2, .int a3, .int b4, .null] [] z Q) (hB197 : ∀ (b5 : Int32) (z : tq_S), B197 b5 z → tq_T K 42 x mm_X12_loops 197 [.ref 51, .int a1, .int a2, .int a3, .int a4, .int b5] [] z Q) (h : wc_X12_loops_247 B108 B162 B197 Q a1 a2 a3 a4 a5 z) : tq_T K 42 x mm_X12_loops 247 [.ref 51, .int a1, .int a2, .int a3, .int a4, .int a5] [] z Q := by
  unfold wc_X12_loops_247 at h
  refine tq_g_iinc (i := 5) (fun v101 => [.ref 51, .int a1, .int a2, .int a3, .int a4, .int v101]) (by decide +kernel) rfl (1 : Int32) kc_1 (fun _ => rfl) (fun v101 ev101 => ?_)
  replace h := h v101 ev101
  refine tq_s_goto (off := -53) (tgt := 197) (by decide +kernel) (by decide +kernel) ?_
  exact hB197 _ _ h
def wc_X12_loops_237 (B108 : Int32 → tq_S → Prop) (B162 : Int32 → tq_S → Prop) (B197 : Int32 → tq_S → Prop) (Q : tq_O → tq_S → Prop) (a1 : Int32) (a2 : Int32) (a3 : Int32) (a4 : Int32) (a5 : Int32) (s0 : Int32) (s1 : Int32) (s2 : Int32) (s3 : Int32) (z : tq_S) : Prop := vp_in a5 262144 ∧ wm_X12_goOn s3 s2 s1 s0 (tq_al z 85 (Int32.toNatClampNeg a5)) z (tq_wv fun z101 => wc_X12_loops_247 B108 B162 B197 Q a1 a2 a3 a4 a5 z101)
theorem ac_X12_loops_237 {K : Nat × (Nat → Int32)} {x : Nat} {Q : tq_O → tq_S → Prop} {B108 : Int32 → tq_S → Prop} {B162 : Int32 → tq_S → Prop} {B197 : Int32 → tq_S → Prop} {a1 : Int32} {a2 : Int32} {a3 : Int32} {a4 : Int32} {a5 : Int32} {s0 : Int32} {s1 : Int32} {s2 : Int32} {s3 : Int32} {z : tq_S} (hB108 : ∀ (b3 : Int32) (z : tq_S), B108 b3 z → tq_T K 42 x mm_X12_loops 108 [.ref 51, .int a1, .int a2, .int b3, .null, .null] [] z Q) (hB162 : ∀ (b4 : Int32) (z : tq_S), B162 b4 z → tq_T K 42 x mm_X12_loops 162 [.ref 51, .int a1, .int a2, .int a3, .int b4, .null] [] z Q) (hB197 : ∀ (b5 : Int32) (z : tq_S), B197 b5 z → tq_T K 42 x mm_X12_loops 197 [.ref 51, .int a1, .int a2, .int a3, .int a4, .int b5] [] z Q) (h : wc_X12_loops_237 B108 B162 B197 Q a1 a2 a3 a4 a5 s0 s1 s2 s3 z) : tq_T K 42 x mm_X12_loops 237 [.ref 51, .int a1, .int a2, .int a3, .int a4, .int a5] [.int s0, .int s1, .int s2, .int s3, .ref 51] z Q := by
  unfold wc_X12_loops_237 at h
  refine tq_s_aload_n (kk := 0) (by decide +kernel) rfl ?_
  refine fg_12_123_51 rfl (by decide +kernel) ?_
  refine tq_s_iload (i := 5) (by decide +kernel) rfl ?_
  refine tq_s_lald (by decide +kernel) sh_85 h.1 ?_
  replace h := h.2
  refine tq_callV (as := [.int s3, .int s2, .int s1, .int s0, .long (tq_al z 85 (Int32.toNatClampNeg a5))]) (st := []) (d1 := 2) (x1 := 0) (x2 := x) (by decide +kernel) ln_12_470 mf_X12_goOn rfl sh_51 rfl (by decide) np_X12_goOn rfl (Nat.le_of_ble_eq_true rfl) (by decide) (Nat.zero_add _).symm (tq_M_mono (am_X12_goOn h) ?_)
  refine tq_wv_e (fun z101 h => ?_)
  exact ac_X12_loops_247 hB108 hB162 hB197 h
def wc_X12_loops_282 (B108 : Int32 → tq_S → Prop) (B162 : Int32 → tq_S → Prop) (Q : tq_O → tq_S → Prop) (a1 : Int32) (a2 : Int32) (a3 : Int32) (a4 : Int32) (z : tq_S) : Prop := ∀ v101 : Int32, v101 = a4 + (1 : Int32) → B162 v101 z
theorem ac_X12_loops_282 {K : Nat × (Nat → Int32)} {x : Nat} {Q : tq_O → tq_S → Prop} {B108 : Int32 → tq_S → Prop} {B162 : Int32 → tq_S → Prop} {a1 : Int32} {a2 : Int32} {a3 : Int32} {a4 : Int32} {z : tq_S} (hB108 : ∀ (b3 : Int32) (z : tq_S), B108 b3 z → tq_T K 42 x mm_X12_loops 108 [.ref 51, .int a1, .int a2, .int b3, .null, .null] [] z Q) (hB162 : ∀ (b4 : Int32) (z : tq_S), B162 b4 z → tq_T K 42 x mm_X12_loops 162 [.ref 51, .int a1, .int a2, .int a3, .int b4, .null] [] z Q) (h : wc_X12_loops_282 B108 B162 Q a1 a2 a3 a4 z) : tq_T K 42 x mm_X12_loops 282 [.ref 51, .int a1, .int a2, .int a3, .int a4, .null] [] z Q := by
  unfold wc_X12_loops_282 at h
  refine tq_g_iinc (i := 4) (fun v101 => [.ref 51, .int a1, .int a2, .int a3, .int v101, .null]) (by decide +kernel) rfl (1 : Int32) kc_1 (fun _ => rfl) (fun v101 ev101 => ?_)
  replace h := h v101 ev101
  refine tq_s_goto (off := -123) (tgt := 162) (by decide +kernel) (by decide +kernel) ?_
  exact hB162 _ _ h
def wb_X12_loops_256 (B108 : Int32 → tq_S → Prop) (B162 : Int32 → tq_S → Prop) (B256 : Int32 → tq_S → Prop) (Q : tq_O → tq_S → Prop) (a1 : Int32) (a2 : Int32) (a3 : Int32) (a4 : Int32) (a5 : Int32) (z : tq_S) : Prop := ((a2 ≤ a5 → wc_X12_loops_282 B108 B162 Q a1 a2 a3 a4 z) ∧ (¬ a2 ≤ a5 → vp_in a5 262144 ∧ vp_in a5 262144 ∧ ∀ z101 : tq_S, z101 = tq_sal z 85 (vp_updL (tq_al z 85) (Int32.toNatClampNeg a5) (tq_al z 86 (Int32.toNatClampNeg a5))) → ∀ v102 : Int32, v102 = a5 + (1 : Int32) → B256 v102 z101))
def wc_X12_loops_256 (B108 : Int32 → tq_S → Prop) (B162 : Int32 → tq_S → Prop) (Q : tq_O → tq_S → Prop) (a1 : Int32) (a2 : Int32) (a3 : Int32) (a4 : Int32) (a5 : Int32) (z : tq_S) : Prop := tq_lp (σ := Int32 × tq_S) (fun B s => wb_X12_loops_256 B108 B162 (fun b5 z => B (b5, z)) Q a1 a2 a3 a4 s.1 s.2) (a5, z)
theorem ab_X12_loops_256 {K : Nat × (Nat → Int32)} {x : Nat} {Q : tq_O → tq_S → Prop} {B108 : Int32 → tq_S → Prop} {B162 : Int32 → tq_S → Prop} {B256 : Int32 → tq_S → Prop} {a1 : Int32} {a2 : Int32} {a3 : Int32} {a4 : Int32} {a5 : Int32} {z : tq_S} (hB108 : ∀ (b3 : Int32) (z : tq_S), B108 b3 z → tq_T K 42 x mm_X12_loops 108 [.ref 51, .int a1, .int a2, .int b3, .null, .null] [] z Q) (hB162 : ∀ (b4 : Int32) (z : tq_S), B162 b4 z → tq_T K 42 x mm_X12_loops 162 [.ref 51, .int a1, .int a2, .int a3, .int b4, .null] [] z Q) (hB256 : ∀ (b5 : Int32) (z : tq_S), B256 b5 z → tq_T K 42 x mm_X12_loops 256 [.ref 51, .int a1, .int a2, .int a3, .int a4, .int b5] [] z Q) (h : wb_X12_loops_256 B108 B162 B256 Q a1 a2 a3 a4 a5 z) : tq_T K 42 x mm_X12_loops 256 [.ref 51, .int a1, .int a2, .int a3, .int a4, .int a5] [] z Q := by
  unfold wb_X12_loops_256 at h
  refine tq_s_iload (i := 5) (by decide +kernel) rfl ?_
  refine tq_s_iload_n (kk := 2) (by decide +kernel) rfl ?_
  refine tq_icmp_ge (off := 23) (tgt := 282) (by decide +kernel) (by decide +kernel) (fun hc => ?_) (fun hc => ?_)
  · replace h := h.1 hc
    exact tq_to (tq_lk1 (tq_lk1 (tq_lk1 (tq_lk1 (tq_lk1 (tq_ld1 tq_l0)))))) (ac_X12_loops_282 hB108 hB162 h)
  · replace h := h.2 hc
    refine tq_s_aload_n (kk := 0) (by decide +kernel) rfl ?_
    refine fg_12_123_51 rfl (by decide +kernel) ?_
    refine tq_s_iload (i := 5) (by decide +kernel) rfl ?_
    refine tq_s_aload_n (kk := 0) (by decide +kernel) rfl ?_
    refine fg_12_126_51 rfl (by decide +kernel) ?_
    refine tq_s_iload (i := 5) (by decide +kernel) rfl ?_
    refine tq_s_lald (by decide +kernel) sh_86 h.1 ?_
    replace h := h.2
    refine tq_g_last (by decide +kernel) sh_85 h.1 (fun z101 ez101 => ?_)
    replace h := h.2 z101 ez101
    refine tq_g_iinc (i := 5) (fun v102 => [.ref 51, .int a1, .int a2, .int a3, .int a4, .int v102]) (by decide +kernel) rfl (1 : Int32) kc_1 (fun _ => rfl) (fun v102 ev102 => ?_)
    replace h := h v102 ev102
    refine tq_s_goto (off := -23) (tgt := 256) (by decide +kernel) (by decide +kernel) ?_
    exact hB256 _ _ h
theorem ac_X12_loops_256 {K : Nat × (Nat → Int32)} {x : Nat} {Q : tq_O → tq_S → Prop} {B108 : Int32 → tq_S → Prop} {B162 : Int32 → tq_S → Prop} {a1 : Int32} {a2 : Int32} {a3 : Int32} {a4 : Int32} {a5 : Int32} {z : tq_S} (hB108 : ∀ (b3 : Int32) (z : tq_S), B108 b3 z → tq_T K 42 x mm_X12_loops 108 [.ref 51, .int a1, .int a2, .int b3, .null, .null] [] z Q) (hB162 : ∀ (b4 : Int32) (z : tq_S), B162 b4 z → tq_T K 42 x mm_X12_loops 162 [.ref 51, .int a1, .int a2, .int a3, .int b4, .null] [] z Q) (h : wc_X12_loops_256 B108 B162 Q a1 a2 a3 a4 a5 z) : tq_T K 42 x mm_X12_loops 256 [.ref 51, .int a1, .int a2, .int a3, .int a4, .int a5] [] z Q :=
  tq_lp_T (σ := Int32 × tq_S) (s := (a5, z)) (G := fun s => tq_T K 42 x mm_X12_loops 256 [.ref 51, .int a1, .int a2, .int a3, .int a4, .int s.1] [] s.2 Q) (fun B hB s h => ab_X12_loops_256 hB108 hB162 (fun b5 z h => hB (b5, z) h) h) h
def wc_X12_loops_253 (B108 : Int32 → tq_S → Prop) (B162 : Int32 → tq_S → Prop) (Q : tq_O → tq_S → Prop) (a1 : Int32) (a2 : Int32) (a3 : Int32) (a4 : Int32) (z : tq_S) : Prop := wc_X12_loops_256 B108 B162 Q a1 a2 a3 a4 (0 : Int32) z
theorem ac_X12_loops_253 {K : Nat × (Nat → Int32)} {x : Nat} {Q : tq_O → tq_S → Prop} {B108 : Int32 → tq_S → Prop} {B162 : Int32 → tq_S → Prop} {a1 : Int32} {a2 : Int32} {a3 : Int32} {a4 : Int32} {z : tq_S} (hB108 : ∀ (b3 : Int32) (z : tq_S), B108 b3 z → tq_T K 42 x mm_X12_loops 108 [.ref 51, .int a1, .int a2, .int b3, .null, .null] [] z Q) (hB162 : ∀ (b4 : Int32) (z : tq_S), B162 b4 z → tq_T K 42 x mm_X12_loops 162 [.ref 51, .int a1, .int a2, .int a3, .int b4, .null] [] z Q) (h : wc_X12_loops_253 B108 B162 Q a1 a2 a3 a4 z) : tq_T K 42 x mm_X12_loops 253 [.ref 51, .int a1, .int a2, .int a3, .int a4, .null] [] z Q := by
  unfold wc_X12_loops_253 at h
  refine tq_k_ic (n := 0) (v := (0 : Int32)) (by decide +kernel) kc_0 ?_
  refine tq_s_istore (i := 5) (L9 := [.ref 51, .int a1, .int a2, .int a3, .int a4, .int (0 : Int32)]) (by decide +kernel) (by decide) rfl ?_
  exact ac_X12_loops_256 hB108 hB162 h
def wb_X12_loops_197 (B108 : Int32 → tq_S → Prop) (B162 : Int32 → tq_S → Prop) (B197 : Int32 → tq_S → Prop) (Q : tq_O → tq_S → Prop) (a1 : Int32) (a2 : Int32) (a3 : Int32) (a4 : Int32) (a5 : Int32) (z : tq_S) : Prop := ((a2 ≤ a5 → wc_X12_loops_253 B108 B162 Q a1 a2 a3 a4 z) ∧ (¬ a2 ≤ a5 → vp_in a5 262144 ∧ (((tq_al z 85 (Int32.toNatClampNeg a5)) ≤ (0 : Int64) → wc_X12_loops_247 B108 B162 B197 Q a1 a2 a3 a4 a5 z) ∧ (¬ (tq_al z 85 (Int32.toNatClampNeg a5)) ≤ (0 : Int64) → ((¬ (((8 : Int32) * a3) + a4) = a1 → wc_X12_loops_237 B108 B162 B197 Q a1 a2 a3 a4 a5 (0 : Int32) a3 a4 a5 z) ∧ ((((8 : Int32) * a3) + a4) = a1 → wc_X12_loops_237 B108 B162 B197 Q a1 a2 a3 a4 a5 (1 : Int32) a3 a4 a5 z))))))
def wc_X12_loops_197 (B108 : Int32 → tq_S → Prop) (B162 : Int32 → tq_S → Prop) (Q : tq_O → tq_S → Prop) (a1 : Int32) (a2 : Int32) (a3 : Int32) (a4 : Int32) (a5 : Int32) (z : tq_S) : Prop := tq_lp (σ := Int32 × tq_S) (fun B s => wb_X12_loops_197 B108 B162 (fun b5 z => B (b5, z)) Q a1 a2 a3 a4 s.1 s.2) (a5, z)
theorem ab_X12_loops_197 {K : Nat × (Nat → Int32)} {x : Nat} {Q : tq_O → tq_S → Prop} {B108 : Int32 → tq_S → Prop} {B162 : Int32 → tq_S → Prop} {B197 : Int32 → tq_S → Prop} {a1 : Int32} {a2 : Int32} {a3 : Int32} {a4 : Int32} {a5 : Int32} {z : tq_S} (hB108 : ∀ (b3 : Int32) (z : tq_S), B108 b3 z → tq_T K 42 x mm_X12_loops 108 [.ref 51, .int a1, .int a2, .int b3, .null, .null] [] z Q) (hB162 : ∀ (b4 : Int32) (z : tq_S), B162 b4 z → tq_T K 42 x mm_X12_loops 162 [.ref 51, .int a1, .int a2, .int a3, .int b4, .null] [] z Q) (hB197 : ∀ (b5 : Int32) (z : tq_S), B197 b5 z → tq_T K 42 x mm_X12_loops 197 [.ref 51, .int a1, .int a2, .int a3, .int a4, .int b5] [] z Q) (h : wb_X12_loops_197 B108 B162 B197 Q a1 a2 a3 a4 a5 z) : tq_T K 42 x mm_X12_loops 197 [.ref 51, .int a1, .int a2, .int a3, .int a4, .int a5] [] z Q := by
  unfold wb_X12_loops_197 at h
  refine tq_s_iload (i := 5) (by decide +kernel) rfl ?_
  refine tq_s_iload_n (kk := 2) (by decide +kernel) rfl ?_
  refine tq_icmp_ge (off := 53) (tgt := 253) (by decide +kernel) (by decide +kernel) (fun hc => ?_) (fun hc => ?_)
  · replace h := h.1 hc
    exact tq_to (tq_lk1 (tq_lk1 (tq_lk1 (tq_lk1 (tq_lk1 (tq_ld1 tq_l0)))))) (ac_X12_loops_253 hB108 hB162 h)
  · replace h := h.2 hc
    refine tq_s_aload_n (kk := 0) (by decide +kernel) rfl ?_
    refine fg_12_123_51 rfl (by decide +kernel) ?_
    refine tq_s_iload (i := 5) (by decide +kernel) rfl ?_
    refine tq_s_lald (by decide +kernel) sh_85 h.1 ?_
    replace h := h.2
    refine tq_k_lc (n := 0) (v := (0 : Int64)) (by decide +kernel) (by decide +kernel) ?_
    refine tq_lcmp_le (off := 35) (tgt := 247) (by decide +kernel) (by decide +kernel) (by decide +kernel) (fun hc => ?_) (fun hc => ?_)
    · replace h := h.1 hc
      exact ac_X12_loops_247 hB108 hB162 hB197 h
    · replace h := h.2 hc
      refine tq_s_aload_n (kk := 0) (by decide +kernel) rfl ?_
      refine tq_s_iload (i := 5) (by decide +kernel) rfl ?_
      refine tq_s_iload (i := 4) (by decide +kernel) rfl ?_
      refine tq_s_iload_n (kk := 3) (by decide +kernel) rfl ?_
      refine tq_k_bi (n := 8) (v := (8 : Int32)) (by decide +kernel) kb_8 ?_
      refine tq_s_iload_n (kk := 3) (by decide +kernel) rfl ?_
      refine tq_s_imul (by decide +kernel) ?_
      refine tq_s_iload (i := 4) (by decide +kernel) rfl ?_
      refine tq_s_iadd (by decide +kernel) ?_
      refine tq_s_iload_n (kk := 1) (by decide +kernel) rfl ?_
      refine tq_icmp_ne (off := 7) (tgt := 236) (by decide +kernel) (by decide +kernel) (fun hc => ?_) (fun hc => ?_)
      · replace h := h.1 hc
        refine tq_k_ic (n := 0) (v := (0 : Int32)) (by decide +kernel) kc_0 ?_
        exact ac_X12_loops_237 hB108 hB162 hB197 h
      · replace h := h.2 hc
        refine tq_k_ic (n := 1) (v := (1 : Int32)) (by decide +kernel) kc_1 ?_
        refine tq_s_goto (off := 4) (tgt := 237) (by decide +kernel) (by decide +kernel) ?_
        exact ac_X12_loops_237 hB108 hB162 hB197 h
theorem ac_X12_loops_197 {K : Nat × (Nat → Int32)} {x : Nat} {Q : tq_O → tq_S → Prop} {B108 : Int32 → tq_S → Prop} {B162 : Int32 → tq_S → Prop} {a1 : Int32} {a2 : Int32} {a3 : Int32} {a4 : Int32} {a5 : Int32} {z : tq_S} (hB108 : ∀ (b3 : Int32) (z : tq_S), B108 b3 z → tq_T K 42 x mm_X12_loops 108 [.ref 51, .int a1, .int a2, .int b3, .null, .null] [] z Q) (hB162 : ∀ (b4 : Int32) (z : tq_S), B162 b4 z → tq_T K 42 x mm_X12_loops 162 [.ref 51, .int a1, .int a2, .int a3, .int b4, .null] [] z Q) (h : wc_X12_loops_197 B108 B162 Q a1 a2 a3 a4 a5 z) : tq_T K 42 x mm_X12_loops 197 [.ref 51, .int a1, .int a2, .int a3, .int a4, .int a5] [] z Q :=
  tq_lp_T (σ := Int32 × tq_S) (s := (a5, z)) (G := fun s => tq_T K 42 x mm_X12_loops 197 [.ref 51, .int a1, .int a2, .int a3, .int a4, .int s.1] [] s.2 Q) (fun B hB s h => ab_X12_loops_197 hB108 hB162 (fun b5 z h => hB (b5, z) h) h) h
def wc_X12_loops_194 (B108 : Int32 → tq_S → Prop) (B162 : Int32 → tq_S → Prop) (Q : tq_O → tq_S → Prop) (a1 : Int32) (a2 : Int32) (a3 : Int32) (a4 : Int32) (z : tq_S) : Prop := wc_X12_loops_197 B108 B162 Q a1 a2 a3 a4 (0 : Int32) z
theorem ac_X12_loops_194 {K : Nat × (Nat → Int32)} {x : Nat} {Q : tq_O → tq_S → Prop} {B108 : Int32 → tq_S → Prop} {B162 : Int32 → tq_S → Prop} {a1 : Int32} {a2 : Int32} {a3 : Int32} {a4 : Int32} {z : tq_S} (hB108 : ∀ (b3 : Int32) (z : tq_S), B108 b3 z → tq_T K 42 x mm_X12_loops 108 [.ref 51, .int a1, .int a2, .int b3, .null, .null] [] z Q) (hB162 : ∀ (b4 : Int32) (z : tq_S), B162 b4 z → tq_T K 42 x mm_X12_loops 162 [.ref 51, .int a1, .int a2, .int a3, .int b4, .null] [] z Q) (h : wc_X12_loops_194 B108 B162 Q a1 a2 a3 a4 z) : tq_T K 42 x mm_X12_loops 194 [.ref 51, .int a1, .int a2, .int a3, .int a4, .null] [] z Q := by
  unfold wc_X12_loops_194 at h
  refine tq_k_ic (n := 0) (v := (0 : Int32)) (by decide +kernel) kc_0 ?_
  refine tq_s_istore (i := 5) (L9 := [.ref 51, .int a1, .int a2, .int a3, .int a4, .int (0 : Int32)]) (by decide +kernel) (by decide) rfl ?_
  exact ac_X12_loops_197 hB108 hB162 h
def wb_X12_loops_174 (B108 : Int32 → tq_S → Prop) (B162 : Int32 → tq_S → Prop) (B174 : Int32 → tq_S → Prop) (Q : tq_O → tq_S → Prop) (a1 : Int32) (a2 : Int32) (a3 : Int32) (a4 : Int32) (a5 : Int32) (z : tq_S) : Prop := ((a2 ≤ a5 → wc_X12_loops_194 B108 B162 Q a1 a2 a3 a4 z) ∧ (¬ a2 ≤ a5 → vp_in a5 262144 ∧ ∀ z101 : tq_S, z101 = tq_sal z 86 (vp_updL (tq_al z 86) (Int32.toNatClampNeg a5) (0 : Int64)) → ∀ v102 : Int32, v102 = a5 + (1 : Int32) → B174 v102 z101))
def wc_X12_loops_174 (B108 : Int32 → tq_S → Prop) (B162 : Int32 → tq_S → Prop) (Q : tq_O → tq_S → Prop) (a1 : Int32) (a2 : Int32) (a3 : Int32) (a4 : Int32) (a5 : Int32) (z : tq_S) : Prop := tq_lp (σ := Int32 × tq_S) (fun B s => wb_X12_loops_174 B108 B162 (fun b5 z => B (b5, z)) Q a1 a2 a3 a4 s.1 s.2) (a5, z)
theorem ab_X12_loops_174 {K : Nat × (Nat → Int32)} {x : Nat} {Q : tq_O → tq_S → Prop} {B108 : Int32 → tq_S → Prop} {B162 : Int32 → tq_S → Prop} {B174 : Int32 → tq_S → Prop} {a1 : Int32} {a2 : Int32} {a3 : Int32} {a4 : Int32} {a5 : Int32} {z : tq_S} (hB108 : ∀ (b3 : Int32) (z : tq_S), B108 b3 z → tq_T K 42 x mm_X12_loops 108 [.ref 51, .int a1, .int a2, .int b3, .null, .null] [] z Q) (hB162 : ∀ (b4 : Int32) (z : tq_S), B162 b4 z → tq_T K 42 x mm_X12_loops 162 [.ref 51, .int a1, .int a2, .int a3, .int b4, .null] [] z Q) (hB174 : ∀ (b5 : Int32) (z : tq_S), B174 b5 z → tq_T K 42 x mm_X12_loops 174 [.ref 51, .int a1, .int a2, .int a3, .int a4, .int b5] [] z Q) (h : wb_X12_loops_174 B108 B162 B174 Q a1 a2 a3 a4 a5 z) : tq_T K 42 x mm_X12_loops 174 [.ref 51, .int a1, .int a2, .int a3, .int a4, .int a5] [] z Q := by
  unfold wb_X12_loops_174 at h
  refine tq_s_iload (i := 5) (by decide +kernel) rfl ?_
  refine tq_s_iload_n (kk := 2) (by decide +kernel) rfl ?_
  refine tq_icmp_ge (off := 17) (tgt := 194) (by decide +kernel) (by decide +kernel) (fun hc => ?_) (fun hc => ?_)
  · replace h := h.1 hc
    exact tq_to (tq_lk1 (tq_lk1 (tq_lk1 (tq_lk1 (tq_lk1 (tq_ld1 tq_l0)))))) (ac_X12_loops_194 hB108 hB162 h)
  · replace h := h.2 hc
    refine tq_s_aload_n (kk := 0) (by decide +kernel) rfl ?_
    refine fg_12_126_51 rfl (by decide +kernel) ?_
    refine tq_s_iload (i := 5) (by decide +kernel) rfl ?_
    refine tq_k_lc (n := 0) (v := (0 : Int64)) (by decide +kernel) (by decide +kernel) ?_
    refine tq_g_last (by decide +kernel) sh_86 h.1 (fun z101 ez101 => ?_)
    replace h := h.2 z101 ez101
    refine tq_g_iinc (i := 5) (fun v102 => [.ref 51, .int a1, .int a2, .int a3, .int a4, .int v102]) (by decide +kernel) rfl (1 : Int32) kc_1 (fun _ => rfl) (fun v102 ev102 => ?_)
    replace h := h v102 ev102
    refine tq_s_goto (off := -17) (tgt := 174) (by decide +kernel) (by decide +kernel) ?_
    exact hB174 _ _ h
theorem ac_X12_loops_174 {K : Nat × (Nat → Int32)} {x : Nat} {Q : tq_O → tq_S → Prop} {B108 : Int32 → tq_S → Prop} {B162 : Int32 → tq_S → Prop} {a1 : Int32} {a2 : Int32} {a3 : Int32} {a4 : Int32} {a5 : Int32} {z : tq_S} (hB108 : ∀ (b3 : Int32) (z : tq_S), B108 b3 z → tq_T K 42 x mm_X12_loops 108 [.ref 51, .int a1, .int a2, .int b3, .null, .null] [] z Q) (hB162 : ∀ (b4 : Int32) (z : tq_S), B162 b4 z → tq_T K 42 x mm_X12_loops 162 [.ref 51, .int a1, .int a2, .int a3, .int b4, .null] [] z Q) (h : wc_X12_loops_174 B108 B162 Q a1 a2 a3 a4 a5 z) : tq_T K 42 x mm_X12_loops 174 [.ref 51, .int a1, .int a2, .int a3, .int a4, .int a5] [] z Q :=
  tq_lp_T (σ := Int32 × tq_S) (s := (a5, z)) (G := fun s => tq_T K 42 x mm_X12_loops 174 [.ref 51, .int a1, .int a2, .int a3, .int a4, .int s.1] [] s.2 Q) (fun B hB s h => ab_X12_loops_174 hB108 hB162 (fun b5 z h => hB (b5, z) h) h) h
def wc_X12_loops_288 (B108 : Int32 → tq_S → Prop) (Q : tq_O → tq_S → Prop) (a1 : Int32) (a2 : Int32) (a3 : Int32) (z : tq_S) : Prop := ∀ v101 : Int32, v101 = a3 + (1 : Int32) → B108 v101 z
theorem ac_X12_loops_288 {K : Nat × (Nat → Int32)} {x : Nat} {Q : tq_O → tq_S → Prop} {B108 : Int32 → tq_S → Prop} {a1 : Int32} {a2 : Int32} {a3 : Int32} {z : tq_S} (hB108 : ∀ (b3 : Int32) (z : tq_S), B108 b3 z → tq_T K 42 x mm_X12_loops 108 [.ref 51, .int a1, .int a2, .int b3, .null, .null] [] z Q) (h : wc_X12_loops_288 B108 Q a1 a2 a3 z) : tq_T K 42 x mm_X12_loops 288 [.ref 51, .int a1, .int a2, .int a3, .null, .null] [] z Q := by
  unfold wc_X12_loops_288 at h
  refine tq_g_iinc (i := 3) (fun v101 => [.ref 51, .int a1, .int a2, .int v101, .null, .null]) (by decide +kernel) rfl (1 : Int32) kc_1 (fun _ => rfl) (fun v101 ev101 => ?_)
  replace h := h v101 ev101
  refine tq_s_goto (off := -183) (tgt := 108) (by decide +kernel) (by decide +kernel) ?_
  exact hB108 _ _ h
def wb_X12_loops_162 (B108 : Int32 → tq_S → Prop) (B162 : Int32 → tq_S → Prop) (Q : tq_O → tq_S → Prop) (a1 : Int32) (a2 : Int32) (a3 : Int32) (a4 : Int32) (z : tq_S) : Prop := (((tq_fi z 3265) ≤ a4 → wc_X12_loops_288 B108 Q a1 a2 a3 z) ∧ (¬ (tq_fi z 3265) ≤ a4 → wc_X12_loops_174 B108 B162 Q a1 a2 a3 a4 (0 : Int32) z))
def wc_X12_loops_162 (B108 : Int32 → tq_S → Prop) (Q : tq_O → tq_S → Prop) (a1 : Int32) (a2 : Int32) (a3 : Int32) (a4 : Int32) (z : tq_S) : Prop := tq_lp (σ := Int32 × tq_S) (fun B s => wb_X12_loops_162 B108 (fun b4 z => B (b4, z)) Q a1 a2 a3 s.1 s.2) (a4, z)
theorem ab_X12_loops_162 {K : Nat × (Nat → Int32)} {x : Nat} {Q : tq_O → tq_S → Prop} {B108 : Int32 → tq_S → Prop} {B162 : Int32 → tq_S → Prop} {a1 : Int32} {a2 : Int32} {a3 : Int32} {a4 : Int32} {z : tq_S} (hB108 : ∀ (b3 : Int32) (z : tq_S), B108 b3 z → tq_T K 42 x mm_X12_loops 108 [.ref 51, .int a1, .int a2, .int b3, .null, .null] [] z Q) (hB162 : ∀ (b4 : Int32) (z : tq_S), B162 b4 z → tq_T K 42 x mm_X12_loops 162 [.ref 51, .int a1, .int a2, .int a3, .int b4, .null] [] z Q) (h : wb_X12_loops_162 B108 B162 Q a1 a2 a3 a4 z) : tq_T K 42 x mm_X12_loops 162 [.ref 51, .int a1, .int a2, .int a3, .int a4, .null] [] z Q := by
  unfold wb_X12_loops_162 at h
  refine tq_s_iload (i := 4) (by decide +kernel) rfl ?_
  refine tq_s_aload_n (kk := 0) (by decide +kernel) rfl ?_
  refine fg_12_7_51 rfl (by decide +kernel) ?_
  refine tq_icmp_ge (off := 120) (tgt := 288) (by decide +kernel) (by decide +kernel) (fun hc => ?_) (fun hc => ?_)
  · replace h := h.1 hc
    exact tq_to (tq_lk1 (tq_lk1 (tq_lk1 (tq_lk1 (tq_ld1 (tq_lk1 tq_l0)))))) (ac_X12_loops_288 hB108 h)
  · replace h := h.2 hc
    refine tq_k_ic (n := 0) (v := (0 : Int32)) (by decide +kernel) kc_0 ?_
    refine tq_s_istore (i := 5) (L9 := [.ref 51, .int a1, .int a2, .int a3, .int a4, .int (0 : Int32)]) (by decide +kernel) (by decide) rfl ?_
    exact ac_X12_loops_174 hB108 hB162 h
theorem ac_X12_loops_162 {K : Nat × (Nat → Int32)} {x : Nat} {Q : tq_O → tq_S → Prop} {B108 : Int32 → tq_S → Prop} {a1 : Int32} {a2 : Int32} {a3 : Int32} {a4 : Int32} {z : tq_S} (hB108 : ∀ (b3 : Int32) (z : tq_S), B108 b3 z → tq_T K 42 x mm_X12_loops 108 [.ref 51, .int a1, .int a2, .int b3, .null, .null] [] z Q) (h : wc_X12_loops_162 B108 Q a1 a2 a3 a4 z) : tq_T K 42 x mm_X12_loops 162 [.ref 51, .int a1, .int a2, .int a3, .int a4, .null] [] z Q :=
  tq_lp_T (σ := Int32 × tq_S) (s := (a4, z)) (G := fun s => tq_T K 42 x mm_X12_loops 162 [.ref 51, .int a1, .int a2, .int a3, .int s.1, .null] [] s.2 Q) (fun B hB s h => ab_X12_loops_162 hB108 (fun b4 z h => hB (b4, z) h) h) h
def wc_X12_loops_159 (B108 : Int32 → tq_S → Prop) (Q : tq_O → tq_S → Prop) (a1 : Int32) (a2 : Int32) (a3 : Int32) (z : tq_S) : Prop := wc_X12_loops_162 B108 Q a1 a2 a3 (0 : Int32) z
theorem ac_X12_loops_159 {K : Nat × (Nat → Int32)} {x : Nat} {Q : tq_O → tq_S → Prop} {B108 : Int32 → tq_S → Prop} {a1 : Int32} {a2 : Int32} {a3 : Int32} {z : tq_S} (hB108 : ∀ (b3 : Int32) (z : tq_S), B108 b3 z → tq_T K 42 x mm_X12_loops 108 [.ref 51, .int a1, .int a2, .int b3, .null, .null] [] z Q) (h : wc_X12_loops_159 B108 Q a1 a2 a3 z) : tq_T K 42 x mm_X12_loops 159 [.ref 51, .int a1, .int a2, .int a3, .null, .null] [] z Q := by
  unfold wc_X12_loops_159 at h
  refine tq_k_ic (n := 0) (v := (0 : Int32)) (by decide +kernel) kc_0 ?_
  refine tq_s_istore (i := 4) (L9 := [.ref 51, .int a1, .int a2, .int a3, .int (0 : Int32), .null]) (by decide +kernel) (by decide) rfl ?_
  exact ac_X12_loops_162 hB108 h
def wb_X12_loops_121 (B108 : Int32 → tq_S → Prop) (B121 : Int32 → tq_S → Prop) (Q : tq_O → tq_S → Prop) (a1 : Int32) (a2 : Int32) (a3 : Int32) (a4 : Int32) (z : tq_S) : Prop := ((a4 < 0 → wc_X12_loops_159 B108 Q a1 a2 a3 z) ∧ (¬ a4 < 0 → ((¬ (a4 &&& (3 : Int32)) = 0 → wc_X12_loops_152 B108 B121 Q a1 a2 a3 a4 (0 : Int64) a4 z) ∧ ((a4 &&& (3 : Int32)) = 0 → vp_in (a4 >>> ((2 : Int32) &&& 31)) 262144 ∧ wc_X12_loops_152 B108 B121 Q a1 a2 a3 a4 (tq_al z 85 (Int32.toNatClampNeg (a4 >>> ((2 : Int32) &&& 31)))) a4 z))))
def wc_X12_loops_121 (B108 : Int32 → tq_S → Prop) (Q : tq_O → tq_S → Prop) (a1 : Int32) (a2 : Int32) (a3 : Int32) (a4 : Int32) (z : tq_S) : Prop := tq_lp (σ := Int32 × tq_S) (fun B s => wb_X12_loops_121 B108 (fun b4 z => B (b4, z)) Q a1 a2 a3 s.1 s.2) (a4, z)
theorem ab_X12_loops_121 {K : Nat × (Nat → Int32)} {x : Nat} {Q : tq_O → tq_S → Prop} {B108 : Int32 → tq_S → Prop} {B121 : Int32 → tq_S → Prop} {a1 : Int32} {a2 : Int32} {a3 : Int32} {a4 : Int32} {z : tq_S} (hB108 : ∀ (b3 : Int32) (z : tq_S), B108 b3 z → tq_T K 42 x mm_X12_loops 108 [.ref 51, .int a1, .int a2, .int b3, .null, .null] [] z Q) (hB121 : ∀ (b4 : Int32) (z : tq_S), B121 b4 z → tq_T K 42 x mm_X12_loops 121 [.ref 51, .int a1, .int a2, .int a3, .int b4, .null] [] z Q) (h : wb_X12_loops_121 B108 B121 Q a1 a2 a3 a4 z) : tq_T K 42 x mm_X12_loops 121 [.ref 51, .int a1, .int a2, .int a3, .int a4, .null] [] z Q := by
  unfold wb_X12_loops_121 at h
  refine tq_s_iload (i := 4) (by decide +kernel) rfl ?_
  refine tq_if_lt (off := 36) (tgt := 159) (by decide +kernel) (by decide +kernel) (fun hc => ?_) (fun hc => ?_)
  · replace h := h.1 hc
    exact tq_to (tq_lk1 (tq_lk1 (tq_lk1 (tq_lk1 (tq_ld1 (tq_lk1 tq_l0)))))) (ac_X12_loops_159 hB108 h)
  · replace h := h.2 hc
    refine tq_s_aload_n (kk := 0) (by decide +kernel) rfl ?_
    refine fg_12_123_51 rfl (by decide +kernel) ?_
    refine tq_s_iload (i := 4) (by decide +kernel) rfl ?_
    refine tq_s_iload (i := 4) (by decide +kernel) rfl ?_
    refine tq_k_ic (n := 3) (v := (3 : Int32)) (by decide +kernel) kc_3 ?_
    refine tq_s_iand (by decide +kernel) ?_
    refine tq_if_ne (off := 15) (tgt := 151) (by decide +kernel) (by decide +kernel) (fun hc => ?_) (fun hc => ?_)
    · replace h := h.1 hc
      refine tq_k_lc (n := 0) (v := (0 : Int64)) (by decide +kernel) (by decide +kernel) ?_
      exact ac_X12_loops_152 hB108 hB121 h
    · replace h := h.2 hc
      refine tq_s_aload_n (kk := 0) (by decide +kernel) rfl ?_
      refine fg_12_123_51 rfl (by decide +kernel) ?_
      refine tq_s_iload (i := 4) (by decide +kernel) rfl ?_
      refine tq_k_ic (n := 2) (v := (2 : Int32)) (by decide +kernel) kc_2 ?_
      refine tq_s_ishr (by decide +kernel) ?_
      refine tq_s_lald (by decide +kernel) sh_85 h.1 ?_
      replace h := h.2
      refine tq_s_goto (off := 4) (tgt := 152) (by decide +kernel) (by decide +kernel) ?_
      exact ac_X12_loops_152 hB108 hB121 h
theorem ac_X12_loops_121 {K : Nat × (Nat → Int32)} {x : Nat} {Q : tq_O → tq_S → Prop} {B108 : Int32 → tq_S → Prop} {a1 : Int32} {a2 : Int32} {a3 : Int32} {a4 : Int32} {z : tq_S} (hB108 : ∀ (b3 : Int32) (z : tq_S), B108 b3 z → tq_T K 42 x mm_X12_loops 108 [.ref 51, .int a1, .int a2, .int b3, .null, .null] [] z Q) (h : wc_X12_loops_121 B108 Q a1 a2 a3 a4 z) : tq_T K 42 x mm_X12_loops 121 [.ref 51, .int a1, .int a2, .int a3, .int a4, .null] [] z Q :=
  tq_lp_T (σ := Int32 × tq_S) (s := (a4, z)) (G := fun s => tq_T K 42 x mm_X12_loops 121 [.ref 51, .int a1, .int a2, .int a3, .int s.1, .null] [] s.2 Q) (fun B hB s h => ab_X12_loops_121 hB108 (fun b4 z h => hB (b4, z) h) h) h
def wc_X12_loops_294 (Q : tq_O → tq_S → Prop)  (z : tq_S) : Prop := wm_X12_put (tq_fl z 3319) z (tq_wi fun r102 z101 => Q (.inl (some (.int r102))) z101)
theorem ac_X12_loops_294 {K : Nat × (Nat → Int32)} {x : Nat} {Q : tq_O → tq_S → Prop}  {z : tq_S} (h : wc_X12_loops_294 Q z) : tq_T K 42 x mm_X12_loops 294 [.ref 51, .null, .null, .null, .null, .null] [] z Q := by
  unfold wc_X12_loops_294 at h
  refine tq_s_aload_n (kk := 0) (by decide +kernel) rfl ?_
  refine tq_s_aload_n (kk := 0) (by decide +kernel) rfl ?_
  refine fg_12_467_51 rfl (by decide +kernel) ?_
  refine tq_callV (as := [.long (tq_fl z 3319)]) (st := []) (d1 := 41) (x1 := 0) (x2 := x) (by decide +kernel) ln_12_226 mf_X12_put rfl sh_51 rfl (by decide) np_X12_put rfl (Nat.le_of_ble_eq_true rfl) (by decide) (Nat.zero_add _).symm (tq_M_mono (am_X12_put h) ?_)
  refine tq_wi_e (fun r102 z101 h => ?_)
  exact tq_ret_i (st := []) (by decide +kernel) rfl h
def wb_X12_loops_108 (B108 : Int32 → tq_S → Prop) (Q : tq_O → tq_S → Prop) (a1 : Int32) (a2 : Int32) (a3 : Int32) (z : tq_S) : Prop := (((tq_fi z 3266) ≤ a3 → wc_X12_loops_294 Q z) ∧ (¬ (tq_fi z 3266) ≤ a3 → ∀ v101 : Int32, v101 = (a2 - (1 : Int32)) → wc_X12_loops_121 B108 Q a1 a2 a3 v101 z))
def wc_X12_loops_108 (Q : tq_O → tq_S → Prop) (a1 : Int32) (a2 : Int32) (a3 : Int32) (z : tq_S) : Prop := tq_lp (σ := Int32 × tq_S) (fun B s => wb_X12_loops_108 (fun b3 z => B (b3, z)) Q a1 a2 s.1 s.2) (a3, z)
theorem ab_X12_loops_108 {K : Nat × (Nat → Int32)} {x : Nat} {Q : tq_O → tq_S → Prop} {B108 : Int32 → tq_S → Prop} {a1 : Int32} {a2 : Int32} {a3 : Int32} {z : tq_S} (hB108 : ∀ (b3 : Int32) (z : tq_S), B108 b3 z → tq_T K 42 x mm_X12_loops 108 [.ref 51, .int a1, .int a2, .int b3, .null, .null] [] z Q) (h : wb_X12_loops_108 B108 Q a1 a2 a3 z) : tq_T K 42 x mm_X12_loops 108 [.ref 51, .int a1, .int a2, .int a3, .null, .null] [] z Q := by
  unfold wb_X12_loops_108 at h
  refine tq_s_iload_n (kk := 3) (by decide +kernel) rfl ?_
  refine tq_s_aload_n (kk := 0) (by decide +kernel) rfl ?_
  refine fg_12_13_51 rfl (by decide +kernel) ?_
  refine tq_icmp_ge (off := 181) (tgt := 294) (by decide +kernel) (by decide +kernel) (fun hc => ?_) (fun hc => ?_)
  · replace h := h.1 hc
    exact tq_to (tq_lk1 (tq_ld1 (tq_ld1 (tq_ld1 (tq_lk1 (tq_lk1 tq_l0)))))) (ac_X12_loops_294 h)
  · replace h := h.2 hc
    refine tq_s_iload_n (kk := 2) (by decide +kernel) rfl ?_
    refine tq_k_ic (n := 1) (v := (1 : Int32)) (by decide +kernel) kc_1 ?_
    refine tq_s_isub (by decide +kernel) ?_
    refine tq_g_istore (i := 4) (fun v101 => [.ref 51, .int a1, .int a2, .int a3, .int v101, .null]) (by decide +kernel) (by decide) (fun _ => rfl) (fun v101 ev101 => ?_)
    replace h := h v101 ev101
    exact ac_X12_loops_121 hB108 h
theorem ac_X12_loops_108 {K : Nat × (Nat → Int32)} {x : Nat} {Q : tq_O → tq_S → Prop} {a1 : Int32} {a2 : Int32} {a3 : Int32} {z : tq_S} (h : wc_X12_loops_108 Q a1 a2 a3 z) : tq_T K 42 x mm_X12_loops 108 [.ref 51, .int a1, .int a2, .int a3, .null, .null] [] z Q :=
  tq_lp_T (σ := Int32 × tq_S) (s := (a3, z)) (G := fun s => tq_T K 42 x mm_X12_loops 108 [.ref 51, .int a1, .int a2, .int s.1, .null, .null] [] s.2 Q) (fun B hB s h => ab_X12_loops_108 (fun b3 z h => hB (b3, z) h) h) h
def wc_X12_loops_106 (Q : tq_O → tq_S → Prop) (a1 : Int32) (a2 : Int32) (z : tq_S) : Prop := wc_X12_loops_108 Q a1 a2 (0 : Int32) z
theorem ac_X12_loops_106 {K : Nat × (Nat → Int32)} {x : Nat} {Q : tq_O → tq_S → Prop} {a1 : Int32} {a2 : Int32} {z : tq_S} (h : wc_X12_loops_106 Q a1 a2 z) : tq_T K 42 x mm_X12_loops 106 [.ref 51, .int a1, .int a2, .null, .null, .null] [] z Q := by
  unfold wc_X12_loops_106 at h
  refine tq_k_ic (n := 0) (v := (0 : Int32)) (by decide +kernel) kc_0 ?_
  refine tq_s_istore_n (kk := 3) (L9 := [.ref 51, .int a1, .int a2, .int (0 : Int32), .null, .null]) (by decide +kernel) (by decide) rfl ?_
  exact ac_X12_loops_108 h
def wb_X12_loops_80 (B80 : Int32 → tq_S → Prop) (Q : tq_O → tq_S → Prop) (a1 : Int32) (a2 : Int32) (a3 : Int32) (z : tq_S) : Prop := ((a2 ≤ a3 → wc_X12_loops_106 Q a1 a2 z) ∧ (¬ a2 ≤ a3 → ((¬ a3 = 0 → wc_X12_loops_99 B80 Q a1 a2 a3 (0 : Int64) a3 z) ∧ (a3 = 0 → wc_X12_loops_99 B80 Q a1 a2 a3 (1 : Int64) a3 z))))
def wc_X12_loops_80 (Q : tq_O → tq_S → Prop) (a1 : Int32) (a2 : Int32) (a3 : Int32) (z : tq_S) : Prop := tq_lp (σ := Int32 × tq_S) (fun B s => wb_X12_loops_80 (fun b3 z => B (b3, z)) Q a1 a2 s.1 s.2) (a3, z)
theorem ab_X12_loops_80 {K : Nat × (Nat → Int32)} {x : Nat} {Q : tq_O → tq_S → Prop} {B80 : Int32 → tq_S → Prop} {a1 : Int32} {a2 : Int32} {a3 : Int32} {z : tq_S} (hB80 : ∀ (b3 : Int32) (z : tq_S), B80 b3 z → tq_T K 42 x mm_X12_loops 80 [.ref 51, .int a1, .int a2, .int b3, .null, .null] [] z Q) (h : wb_X12_loops_80 B80 Q a1 a2 a3 z) : tq_T K 42 x mm_X12_loops 80 [.ref 51, .int a1, .int a2, .int a3, .null, .null] [] z Q := by
  unfold wb_X12_loops_80 at h
  refine tq_s_iload_n (kk := 3) (by decide +kernel) rfl ?_
  refine tq_s_iload_n (kk := 2) (by decide +kernel) rfl ?_
  refine tq_icmp_ge (off := 24) (tgt := 106) (by decide +kernel) (by decide +kernel) (fun hc => ?_) (fun hc => ?_)
  · replace h := h.1 hc
    exact tq_to (tq_lk1 (tq_lk1 (tq_lk1 (tq_ld1 (tq_lk1 (tq_lk1 tq_l0)))))) (ac_X12_loops_106 h)
  · replace h := h.2 hc
    refine tq_s_aload_n (kk := 0) (by decide +kernel) rfl ?_
    refine fg_12_123_51 rfl (by decide +kernel) ?_
    refine tq_s_iload_n (kk := 3) (by decide +kernel) rfl ?_
    refine tq_s_iload_n (kk := 3) (by decide +kernel) rfl ?_
    refine tq_if_ne (off := 7) (tgt := 98) (by decide +kernel) (by decide +kernel) (fun hc => ?_) (fun hc => ?_)
    · replace h := h.1 hc
      refine tq_k_lc (n := 0) (v := (0 : Int64)) (by decide +kernel) (by decide +kernel) ?_
      exact ac_X12_loops_99 hB80 h
    · replace h := h.2 hc
      refine tq_k_lc (n := 1) (v := (1 : Int64)) (by decide +kernel) (by decide +kernel) ?_
      refine tq_s_goto (off := 4) (tgt := 99) (by decide +kernel) (by decide +kernel) ?_
      exact ac_X12_loops_99 hB80 h
theorem ac_X12_loops_80 {K : Nat × (Nat → Int32)} {x : Nat} {Q : tq_O → tq_S → Prop} {a1 : Int32} {a2 : Int32} {a3 : Int32} {z : tq_S} (h : wc_X12_loops_80 Q a1 a2 a3 z) : tq_T K 42 x mm_X12_loops 80 [.ref 51, .int a1, .int a2, .int a3, .null, .null] [] z Q :=
  tq_lp_T (σ := Int32 × tq_S) (s := (a3, z)) (G := fun s => tq_T K 42 x mm_X12_loops 80 [.ref 51, .int a1, .int a2, .int s.1, .null, .null] [] s.2 Q) (fun B hB s h => ab_X12_loops_80 (fun b3 z h => hB (b3, z) h) h) h
def wc_X12_loops_62 (Q : tq_O → tq_S → Prop) (a1 : Int32) (z : tq_S) : Prop := ∀ z101 : tq_S, z101 = tq_sfl z 3319 (0 : Int64) → ∀ v102 : Int32, v102 = ((1 : Int32) <<< ((((2 : Int32) * (tq_fi z101 3265)) + (2 : Int32)) &&& 31)) → wc_X12_loops_80 Q a1 v102 (0 : Int32) z101
theorem ac_X12_loops_62 {K : Nat × (Nat → Int32)} {x : Nat} {Q : tq_O → tq_S → Prop} {a1 : Int32} {z : tq_S} (h : wc_X12_loops_62 Q a1 z) : tq_T K 42 x mm_X12_loops 62 [.ref 51, .int a1, .null, .null, .null, .null] [] z Q := by
  unfold wc_X12_loops_62 at h
  refine tq_s_aload_n (kk := 0) (by decide +kernel) rfl ?_
  refine tq_k_lc (n := 0) (v := (0 : Int64)) (by decide +kernel) (by decide +kernel) ?_
  refine fp_12_467_51 rfl (by decide +kernel) (fun z101 ez101 => ?_)
  replace h := h z101 ez101
  refine tq_k_ic (n := 1) (v := (1 : Int32)) (by decide +kernel) kc_1 ?_
  refine tq_k_ic (n := 2) (v := (2 : Int32)) (by decide +kernel) kc_2 ?_
  refine tq_s_aload_n (kk := 0) (by decide +kernel) rfl ?_
  refine fg_12_7_51 rfl (by decide +kernel) ?_
  refine tq_s_imul (by decide +kernel) ?_
  refine tq_k_ic (n := 2) (v := (2 : Int32)) (by decide +kernel) kc_2 ?_
  refine tq_s_iadd (by decide +kernel) ?_
  refine tq_s_ishl (by decide +kernel) ?_
  refine tq_g_istore_n (kk := 2) (fun v102 => [.ref 51, .int a1, .int v102, .null, .null, .null]) (by decide +kernel) (by decide) (fun _ => rfl) (fun v102 ev102 => ?_)
  replace h := h v102 ev102
  refine tq_k_ic (n := 0) (v := (0 : Int32)) (by decide +kernel) kc_0 ?_
  refine tq_s_istore_n (kk := 3) (L9 := [.ref 51, .int a1, .int v102, .int (0 : Int32), .null, .null]) (by decide +kernel) (by decide) rfl ?_
  exact ac_X12_loops_80 h
def wb_X12_loops_35 (B35 : Int32 → Int32 → tq_S → Prop) (Q : tq_O → tq_S → Prop) (a1 : Int32) (a2 : Int32) (z : tq_S) : Prop := (((64 : Int32) ≤ a2 → wc_X12_loops_62 Q a1 z) ∧ (¬ (64 : Int32) ≤ a2 → vp_in a2 64 ∧ (((tq_ai z 52 (Int32.toNatClampNeg a2)) = 0 → wc_X12_loops_55 B35 Q a2 a1 z) ∧ (¬ (tq_ai z 52 (Int32.toNatClampNeg a2)) = 0 → wc_X12_loops_55 B35 Q a2 a2 z))))
def wc_X12_loops_35 (Q : tq_O → tq_S → Prop) (a1 : Int32) (a2 : Int32) (z : tq_S) : Prop := tq_lp (σ := Int32 × Int32 × tq_S) (fun B s => wb_X12_loops_35 (fun b1 b2 z => B (b1, b2, z)) Q s.1 s.2.1 s.2.2) (a1, a2, z)
theorem ab_X12_loops_35 {K : Nat × (Nat → Int32)} {x : Nat} {Q : tq_O → tq_S → Prop} {B35 : Int32 → Int32 → tq_S → Prop} {a1 : Int32} {a2 : Int32} {z : tq_S} (hB35 : ∀ (b1 : Int32) (b2 : Int32) (z : tq_S), B35 b1 b2 z → tq_T K 42 x mm_X12_loops 35 [.ref 51, .int b1, .int b2, .null, .null, .null] [] z Q) (h : wb_X12_loops_35 B35 Q a1 a2 z) : tq_T K 42 x mm_X12_loops 35 [.ref 51, .int a1, .int a2, .null, .null, .null] [] z Q := by
  unfold wb_X12_loops_35 at h
  refine tq_s_iload_n (kk := 2) (by decide +kernel) rfl ?_
  refine tq_k_bi (n := 64) (v := (64 : Int32)) (by decide +kernel) kb_64 ?_
  refine tq_icmp_ge (off := 24) (tgt := 62) (by decide +kernel) (by decide +kernel) (fun hc => ?_) (fun hc => ?_)
  · replace h := h.1 hc
    exact tq_to (tq_lk1 (tq_lk1 (tq_ld1 (tq_lk1 (tq_lk1 (tq_lk1 tq_l0)))))) (ac_X12_loops_62 h)
  · replace h := h.2 hc
    refine tq_s_aload_n (kk := 0) (by decide +kernel) rfl ?_
    refine fg_12_16_51 rfl (by decide +kernel) ?_
    refine tq_s_iload_n (kk := 2) (by decide +kernel) rfl ?_
    refine tq_s_zald (by decide +kernel) sh_52 h.1 ?_
    replace h := h.2
    refine tq_if_eq (off := 7) (tgt := 54) (by decide +kernel) (by decide +kernel) (fun hc => ?_) (fun hc => ?_)
    · replace h := h.1 hc
      refine tq_s_iload_n (kk := 1) (by decide +kernel) rfl ?_
      exact tq_to (tq_lk1 (tq_ld1 (tq_lk1 (tq_lk1 (tq_lk1 (tq_lk1 tq_l0)))))) (ac_X12_loops_55 hB35 h)
    · replace h := h.2 hc
      refine tq_s_iload_n (kk := 2) (by decide +kernel) rfl ?_
      refine tq_s_goto (off := 4) (tgt := 55) (by decide +kernel) (by decide +kernel) ?_
      exact tq_to (tq_lk1 (tq_ld1 (tq_lk1 (tq_lk1 (tq_lk1 (tq_lk1 tq_l0)))))) (ac_X12_loops_55 hB35 h)
theorem ac_X12_loops_35 {K : Nat × (Nat → Int32)} {x : Nat} {Q : tq_O → tq_S → Prop} {a1 : Int32} {a2 : Int32} {z : tq_S} (h : wc_X12_loops_35 Q a1 a2 z) : tq_T K 42 x mm_X12_loops 35 [.ref 51, .int a1, .int a2, .null, .null, .null] [] z Q :=
  tq_lp_T (σ := Int32 × Int32 × tq_S) (s := (a1, a2, z)) (G := fun s => tq_T K 42 x mm_X12_loops 35 [.ref 51, .int s.1, .int s.2.1, .null, .null, .null] [] s.2.2 Q) (fun B hB s h => ab_X12_loops_35 (fun b1 b2 z h => hB (b1, b2, z) h) h) h
def wc_X12_loops_22 (Q : tq_O → tq_S → Prop) (s0 : Int32) (z : tq_S) : Prop := wm_X12_isThrown s0 (1 : Int32) z (tq_wi fun r102 z101 => ((r102 = 0 → wc_X12_loops_35 Q (-1 : Int32) (0 : Int32) z101) ∧ (¬ r102 = 0 → Q (.inl (some (.int (0 : Int32)))) z101)))
theorem ac_X12_loops_22 {K : Nat × (Nat → Int32)} {x : Nat} {Q : tq_O → tq_S → Prop} {s0 : Int32} {z : tq_S} (h : wc_X12_loops_22 Q s0 z) : tq_T K 42 x mm_X12_loops 22 [.ref 51, .null, .null, .null, .null, .null] [.int s0, .ref 51] z Q := by
  unfold wc_X12_loops_22 at h
  refine tq_k_ic (n := 1) (v := (1 : Int32)) (by decide +kernel) kc_1 ?_
  refine tq_callV (as := [.int s0, .int (1 : Int32)]) (st := []) (d1 := 0) (x1 := 0) (x2 := x) (by decide +kernel) ln_12_152 mf_X12_isThrown rfl sh_51 rfl (by decide) np_X12_isThrown rfl (Nat.le_of_ble_eq_true rfl) (by decide) (Nat.zero_add _).symm (tq_M_mono (am_X12_isThrown h) ?_)
  refine tq_wi_e (fun r102 z101 h => ?_)
  refine tq_if_eq (off := 5) (tgt := 31) (by decide +kernel) (by decide +kernel) (fun hc => ?_) (fun hc => ?_)
  · replace h := h.1 hc
    refine tq_k_ic (n := -1) (v := (-1 : Int32)) (by decide +kernel) kc_m1 ?_
    refine tq_s_istore_n (kk := 1) (L9 := [.ref 51, .int (-1 : Int32), .null, .null, .null, .null]) (by decide +kernel) (by decide) rfl ?_
    refine tq_k_ic (n := 0) (v := (0 : Int32)) (by decide +kernel) kc_0 ?_
    refine tq_s_istore_n (kk := 2) (L9 := [.ref 51, .int (-1 : Int32), .int (0 : Int32), .null, .null, .null]) (by decide +kernel) (by decide) rfl ?_
    exact ac_X12_loops_35 h
  · replace h := h.2 hc
    refine tq_k_ic (n := 0) (v := (0 : Int32)) (by decide +kernel) kc_0 ?_
    exact tq_ret_i (st := []) (by decide +kernel) rfl h
def wc_X12_loops_17 (Q : tq_O → tq_S → Prop)  (z : tq_S) : Prop := wc_X12_loops_22 Q (1 : Int32) z
theorem ac_X12_loops_17 {K : Nat × (Nat → Int32)} {x : Nat} {Q : tq_O → tq_S → Prop}  {z : tq_S} (h : wc_X12_loops_17 Q z) : tq_T K 42 x mm_X12_loops 17 [.ref 51, .null, .null, .null, .null, .null] [.ref 51] z Q := by
  unfold wc_X12_loops_17 at h
  refine tq_k_ic (n := 1) (v := (1 : Int32)) (by decide +kernel) kc_1 ?_
  refine tq_s_goto (off := 4) (tgt := 22) (by decide +kernel) (by decide +kernel) ?_
  exact ac_X12_loops_22 h
def wm_X12_loops  (z : tq_S) (Q : tq_O → tq_S → Prop) : Prop := wm_X12_many z (tq_wi fun r2 z1 => (((36 : Int32) < r2 → wc_X12_loops_17 Q z1) ∧ (¬ (36 : Int32) < r2 → (((tq_fi z1 3267) = 0 → wc_X12_loops_22 Q (0 : Int32) z1) ∧ (¬ (tq_fi z1 3267) = 0 → wc_X12_loops_17 Q z1)))))
theorem am_X12_loops {K : Nat × (Nat → Int32)} {x : Nat} {z : tq_S} {Q : tq_O → tq_S → Prop}  (h : wm_X12_loops z Q) : tq_M K 42 x mm_X12_loops [.ref 51] z Q := by
  unfold wm_X12_loops at h
  refine tq_enter (L := [.ref 51, .null, .null, .null, .null, .null]) mf_X12_loops.1 rfl rfl (Nat.le_of_ble_eq_true rfl) ?_
  refine tq_s_aload_n (kk := 0) (by decide +kernel) rfl ?_
  refine tq_s_aload_n (kk := 0) (by decide +kernel) rfl ?_
  refine tq_callV (as := []) (st := [.ref 51]) (d1 := 0) (x1 := 0) (x2 := x) (by decide +kernel) ln_12_160 mf_X12_many rfl sh_51 rfl (by decide) np_X12_many rfl (Nat.le_of_ble_eq_true rfl) (by decide) (Nat.zero_add _).symm (tq_M_mono (am_X12_many h) ?_)
  refine tq_wi_e (fun r2 z1 h => ?_)
  refine tq_k_bi (n := 36) (v := (36 : Int32)) (by decide +kernel) kb_36 ?_
  refine tq_icmp_gt (off := 10) (tgt := 17) (by decide +kernel) (by decide +kernel) (fun hc => ?_) (fun hc => ?_)
  · replace h := h.1 hc
    exact ac_X12_loops_17 h
  · replace h := h.2 hc
    refine tq_s_aload_n (kk := 0) (by decide +kernel) rfl ?_
    refine fg_12_142_51 rfl (by decide +kernel) ?_
    refine tq_if_eq (off := 7) (tgt := 21) (by decide +kernel) (by decide +kernel) (fun hc => ?_) (fun hc => ?_)
    · replace h := h.1 hc
      refine tq_k_ic (n := 0) (v := (0 : Int32)) (by decide +kernel) kc_0 ?_
      exact ac_X12_loops_22 h
    · replace h := h.2 hc
      exact ac_X12_loops_17 h
def wc_X12_meanPart_15 (Q : tq_O → tq_S → Prop) (a1 : Int32) (s0 : Int32) (z : tq_S) : Prop := wm_X12_isThrown s0 (1 : Int32) z (tq_wi fun r102 z101 => ((r102 = 0 → wm_X12_partsOf z101 (tq_wi fun r104 z103 => vf_n64 (FP.ddiv (FP.i2d a1) (FP.i2d r104)) ∧ Q (.inl (some (.double (FP.ddiv (FP.i2d a1) (FP.i2d r104))))) z103)) ∧ (¬ r102 = 0 → Q (.inl (some (.double FP.dconst0))) z101)))
theorem ac_X12_meanPart_15 {K : Nat × (Nat → Int32)} {x : Nat} {Q : tq_O → tq_S → Prop} {a1 : Int32} {s0 : Int32} {z : tq_S} (h : wc_X12_meanPart_15 Q a1 s0 z) : tq_T K 3 x mm_X12_meanPart 15 [.ref 51, .int a1] [.int s0, .ref 51] z Q := by
  unfold wc_X12_meanPart_15 at h
  refine tq_k_ic (n := 1) (v := (1 : Int32)) (by decide +kernel) kc_1 ?_
  refine tq_callV (as := [.int s0, .int (1 : Int32)]) (st := []) (d1 := 0) (x1 := 0) (x2 := x) (by decide +kernel) ln_12_152 mf_X12_isThrown rfl sh_51 rfl (by decide) np_X12_isThrown rfl (Nat.le_of_ble_eq_true rfl) (by decide) (Nat.zero_add _).symm (tq_M_mono (am_X12_isThrown h) ?_)
  refine tq_wi_e (fun r102 z101 h => ?_)
  refine tq_if_eq (off := 7) (tgt := 26) (by decide +kernel) (by decide +kernel) (fun hc => ?_) (fun hc => ?_)
  · replace h := h.1 hc
    refine tq_s_iload_n (kk := 1) (by decide +kernel) rfl ?_
    refine tq_s_i2d (by decide +kernel) ?_
    refine tq_s_aload_n (kk := 0) (by decide +kernel) rfl ?_
    refine tq_callV (as := []) (st := [.double (FP.i2d a1)]) (d1 := 2) (x1 := 0) (x2 := x) (by decide +kernel) ln_12_174 mf_X12_partsOf rfl sh_51 rfl (by decide) np_X12_partsOf rfl (Nat.le_of_ble_eq_true rfl) (by decide) (Nat.zero_add _).symm (tq_M_mono (am_X12_partsOf h) ?_)
    refine tq_wi_e (fun r104 z103 h => ?_)
    refine tq_s_i2d (by decide +kernel) ?_
    refine tq_s_ddiv (by decide +kernel) h.1 ?_
    replace h := h.2
    exact tq_ret_d (st := []) (by decide +kernel) rfl h
  · replace h := h.2 hc
    refine tq_s_dconst0 (by decide +kernel) ?_
    refine tq_s_goto (off := 11) (tgt := 34) (by decide +kernel) (by decide +kernel) ?_
    exact tq_ret_d (st := []) (by decide +kernel) rfl h
def wm_X12_meanPart  (z : tq_S) (Q : tq_O → tq_S → Prop) : Prop := wm_X12_many z (tq_wi fun r2 z1 => ((¬ r2 = 0 → wc_X12_meanPart_15 Q r2 (0 : Int32) z1) ∧ (r2 = 0 → wc_X12_meanPart_15 Q r2 (1 : Int32) z1)))
theorem am_X12_meanPart {K : Nat × (Nat → Int32)} {x : Nat} {z : tq_S} {Q : tq_O → tq_S → Prop}  (h : wm_X12_meanPart z Q) : tq_M K 3 x mm_X12_meanPart [.ref 51] z Q := by
  unfold wm_X12_meanPart at h
  refine tq_enter (L := [.ref 51, .null]) mf_X12_meanPart.1 rfl rfl (Nat.le_of_ble_eq_true rfl) ?_
  refine tq_s_aload_n (kk := 0) (by decide +kernel) rfl ?_
  refine tq_callV (as := []) (st := []) (d1 := 0) (x1 := 0) (x2 := x) (by decide +kernel) ln_12_160 mf_X12_many rfl sh_51 rfl (by decide) np_X12_many rfl (Nat.le_of_ble_eq_true rfl) (by decide) (Nat.zero_add _).symm (tq_M_mono (am_X12_many h) ?_)
  refine tq_wi_e (fun r2 z1 h => ?_)
  refine tq_s_istore_n (kk := 1) (L9 := [.ref 51, .int r2]) (by decide +kernel) (by decide) rfl ?_
  refine tq_s_aload_n (kk := 0) (by decide +kernel) rfl ?_
  refine tq_s_iload_n (kk := 1) (by decide +kernel) rfl ?_
  refine tq_if_ne (off := 7) (tgt := 14) (by decide +kernel) (by decide +kernel) (fun hc => ?_) (fun hc => ?_)
  · replace h := h.1 hc
    refine tq_k_ic (n := 0) (v := (0 : Int32)) (by decide +kernel) kc_0 ?_
    exact ac_X12_meanPart_15 h
  · replace h := h.2 hc
    refine tq_k_ic (n := 1) (v := (1 : Int32)) (by decide +kernel) kc_1 ?_
    refine tq_s_goto (off := 4) (tgt := 15) (by decide +kernel) (by decide +kernel) ?_
    exact ac_X12_meanPart_15 h
def wc_X12_checksum_95 (B55 : Int64 → Int32 → tq_S → Prop) (B66 : Int64 → Int32 → tq_S → Prop) (Q : tq_O → tq_S → Prop) (a3 : Int32) (a4 : Int32) (s0 : Int32) (s1 : Int64) (z : tq_S) : Prop := ∀ v101 : Int64, v101 = (s1 + (Int32.toInt64 s0)) → ∀ v102 : Int32, v102 = a4 + (1 : Int32) → B66 v101 v102 z
theorem ac_X12_checksum_95 {K : Nat × (Nat → Int32)} {x : Nat} {Q : tq_O → tq_S → Prop} {B55 : Int64 → Int32 → tq_S → Prop} {B66 : Int64 → Int32 → tq_S → Prop} {a3 : Int32} {a4 : Int32} {s0 : Int32} {s1 : Int64} {z : tq_S} (hB55 : ∀ (b1 : Int64) (b3 : Int32) (z : tq_S), B55 b1 b3 z → tq_T K 2 x mm_X12_checksum 55 [.ref 51, .long b1, .null, .int b3, .null] [] z Q) (hB66 : ∀ (b1 : Int64) (b4 : Int32) (z : tq_S), B66 b1 b4 z → tq_T K 2 x mm_X12_checksum 66 [.ref 51, .long b1, .null, .int a3, .int b4] [] z Q) (h : wc_X12_checksum_95 B55 B66 Q a3 a4 s0 s1 z) : tq_T K 2 x mm_X12_checksum 95 [.ref 51, .null, .null, .int a3, .int a4] [.int s0, .long s1] z Q := by
  unfold wc_X12_checksum_95 at h
  refine tq_s_i2l (by decide +kernel) ?_
  refine tq_s_ladd (by decide +kernel) ?_
  refine tq_g_lstore_n (kk := 1) (fun v101 => [.ref 51, .long v101, .null, .int a3, .int a4]) (by decide +kernel) (by decide) (fun _ => rfl) (fun v101 ev101 => ?_)
  replace h := h v101 ev101
  refine tq_g_iinc (i := 4) (fun v102 => [.ref 51, .long v101, .null, .int a3, .int v102]) (by decide +kernel) rfl (1 : Int32) kc_1 (fun _ => rfl) (fun v102 ev102 => ?_)
  replace h := h v102 ev102
  refine tq_s_goto (off := -35) (tgt := 66) (by decide +kernel) (by decide +kernel) ?_
  exact hB66 _ _ _ h
def wc_X12_checksum_104 (B55 : Int64 → Int32 → tq_S → Prop) (Q : tq_O → tq_S → Prop) (a1 : Int64) (a3 : Int32) (z : tq_S) : Prop := ∀ v101 : Int32, v101 = a3 + (1 : Int32) → B55 a1 v101 z
theorem ac_X12_checksum_104 {K : Nat × (Nat → Int32)} {x : Nat} {Q : tq_O → tq_S → Prop} {B55 : Int64 → Int32 → tq_S → Prop} {a1 : Int64} {a3 : Int32} {z : tq_S} (hB55 : ∀ (b1 : Int64) (b3 : Int32) (z : tq_S), B55 b1 b3 z → tq_T K 2 x mm_X12_checksum 55 [.ref 51, .long b1, .null, .int b3, .null] [] z Q) (h : wc_X12_checksum_104 B55 Q a1 a3 z) : tq_T K 2 x mm_X12_checksum 104 [.ref 51, .long a1, .null, .int a3, .null] [] z Q := by
  unfold wc_X12_checksum_104 at h
  refine tq_g_iinc (i := 3) (fun v101 => [.ref 51, .long a1, .null, .int v101, .null]) (by decide +kernel) rfl (1 : Int32) kc_1 (fun _ => rfl) (fun v101 ev101 => ?_)
  replace h := h v101 ev101
  refine tq_s_goto (off := -52) (tgt := 55) (by decide +kernel) (by decide +kernel) ?_
  exact hB55 _ _ _ h
def wb_X12_checksum_66 (B55 : Int64 → Int32 → tq_S → Prop) (B66 : Int64 → Int32 → tq_S → Prop) (Q : tq_O → tq_S → Prop) (a1 : Int64) (a3 : Int32) (a4 : Int32) (z : tq_S) : Prop := (((tq_fi z 3265) ≤ a4 → wc_X12_checksum_104 B55 Q a1 a3 z) ∧ (¬ (tq_fi z 3265) ≤ a4 → wm_X12_isCell a4 a3 z (tq_wi fun r102 z101 => ((r102 = 0 → wc_X12_checksum_95 B55 B66 Q a3 a4 (0 : Int32) ((31 : Int64) * a1) z101) ∧ (¬ r102 = 0 → wc_X12_checksum_95 B55 B66 Q a3 a4 (1 : Int32) ((31 : Int64) * a1) z101)))))
def wc_X12_checksum_66 (B55 : Int64 → Int32 → tq_S → Prop) (Q : tq_O → tq_S → Prop) (a1 : Int64) (a3 : Int32) (a4 : Int32) (z : tq_S) : Prop := tq_lp (σ := Int64 × Int32 × tq_S) (fun B s => wb_X12_checksum_66 B55 (fun b1 b4 z => B (b1, b4, z)) Q s.1 a3 s.2.1 s.2.2) (a1, a4, z)
theorem ab_X12_checksum_66 {K : Nat × (Nat → Int32)} {x : Nat} {Q : tq_O → tq_S → Prop} {B55 : Int64 → Int32 → tq_S → Prop} {B66 : Int64 → Int32 → tq_S → Prop} {a1 : Int64} {a3 : Int32} {a4 : Int32} {z : tq_S} (hB55 : ∀ (b1 : Int64) (b3 : Int32) (z : tq_S), B55 b1 b3 z → tq_T K 2 x mm_X12_checksum 55 [.ref 51, .long b1, .null, .int b3, .null] [] z Q) (hB66 : ∀ (b1 : Int64) (b4 : Int32) (z : tq_S), B66 b1 b4 z → tq_T K 2 x mm_X12_checksum 66 [.ref 51, .long b1, .null, .int a3, .int b4] [] z Q) (h : wb_X12_checksum_66 B55 B66 Q a1 a3 a4 z) : tq_T K 2 x mm_X12_checksum 66 [.ref 51, .long a1, .null, .int a3, .int a4] [] z Q := by
  unfold wb_X12_checksum_66 at h
  refine tq_s_iload (i := 4) (by decide +kernel) rfl ?_
  refine tq_s_aload_n (kk := 0) (by decide +kernel) rfl ?_
  refine fg_12_7_51 rfl (by decide +kernel) ?_
  refine tq_icmp_ge (off := 32) (tgt := 104) (by decide +kernel) (by decide +kernel) (fun hc => ?_) (fun hc => ?_)
  · replace h := h.1 hc
    exact tq_to (tq_lk1 (tq_lk1 (tq_lk1 (tq_lk1 (tq_ld1 tq_l0))))) (ac_X12_checksum_104 hB55 h)
  · replace h := h.2 hc
    refine tq_s_ldc2 (i := 476) (v := (31 : Int64)) (by decide +kernel) (by decide +kernel) ?_
    refine tq_s_lload_n (kk := 1) (by decide +kernel) rfl ?_
    refine tq_s_lmul (by decide +kernel) ?_
    refine tq_s_aload_n (kk := 0) (by decide +kernel) rfl ?_
    refine tq_s_iload (i := 4) (by decide +kernel) rfl ?_
    refine tq_s_iload_n (kk := 3) (by decide +kernel) rfl ?_
    refine tq_callV (as := [.int a4, .int a3]) (st := [.long ((31 : Int64) * a1)]) (d1 := 1) (x1 := 0) (x2 := x) (by decide +kernel) ln_12_164 mf_X12_isCell rfl sh_51 rfl (by decide) np_X12_isCell rfl (Nat.le_of_ble_eq_true rfl) (by decide) (Nat.zero_add _).symm (tq_M_mono (am_X12_isCell h) ?_)
    refine tq_wi_e (fun r102 z101 h => ?_)
    refine tq_if_eq (off := 7) (tgt := 94) (by decide +kernel) (by decide +kernel) (fun hc => ?_) (fun hc => ?_)
    · replace h := h.1 hc
      refine tq_k_ic (n := 0) (v := (0 : Int32)) (by decide +kernel) kc_0 ?_
      exact tq_to (tq_lk1 (tq_ld1 (tq_lk1 (tq_lk1 (tq_lk1 tq_l0))))) (ac_X12_checksum_95 hB55 hB66 h)
    · replace h := h.2 hc
      refine tq_k_ic (n := 1) (v := (1 : Int32)) (by decide +kernel) kc_1 ?_
      refine tq_s_goto (off := 4) (tgt := 95) (by decide +kernel) (by decide +kernel) ?_
      exact tq_to (tq_lk1 (tq_ld1 (tq_lk1 (tq_lk1 (tq_lk1 tq_l0))))) (ac_X12_checksum_95 hB55 hB66 h)
theorem ac_X12_checksum_66 {K : Nat × (Nat → Int32)} {x : Nat} {Q : tq_O → tq_S → Prop} {B55 : Int64 → Int32 → tq_S → Prop} {a1 : Int64} {a3 : Int32} {a4 : Int32} {z : tq_S} (hB55 : ∀ (b1 : Int64) (b3 : Int32) (z : tq_S), B55 b1 b3 z → tq_T K 2 x mm_X12_checksum 55 [.ref 51, .long b1, .null, .int b3, .null] [] z Q) (h : wc_X12_checksum_66 B55 Q a1 a3 a4 z) : tq_T K 2 x mm_X12_checksum 66 [.ref 51, .long a1, .null, .int a3, .int a4] [] z Q :=
  tq_lp_T (σ := Int64 × Int32 × tq_S) (s := (a1, a4, z)) (G := fun s => tq_T K 2 x mm_X12_checksum 66 [.ref 51, .long s.1, .null, .int a3, .int s.2.1] [] s.2.2 Q) (fun B hB s h => ab_X12_checksum_66 hB55 (fun b1 b4 z h => hB (b1, b4, z) h) h) h
def wc_X12_checksum_151 (B112 : Int64 → Int32 → tq_S → Prop) (Q : tq_O → tq_S → Prop) (a3 : Int32) (s0 : Int64) (z : tq_S) : Prop := ∀ v101 : Int32, v101 = a3 + (1 : Int32) → B112 s0 v101 z
theorem ac_X12_checksum_151 {K : Nat × (Nat → Int32)} {x : Nat} {Q : tq_O → tq_S → Prop} {B112 : Int64 → Int32 → tq_S → Prop} {a3 : Int32} {s0 : Int64} {z : tq_S} (hB112 : ∀ (b1 : Int64) (b3 : Int32) (z : tq_S), B112 b1 b3 z → tq_T K 2 x mm_X12_checksum 112 [.ref 51, .long b1, .null, .int b3, .null] [] z Q) (h : wc_X12_checksum_151 B112 Q a3 s0 z) : tq_T K 2 x mm_X12_checksum 151 [.ref 51, .null, .null, .int a3, .null] [.long s0] z Q := by
  unfold wc_X12_checksum_151 at h
  refine tq_s_lstore_n (kk := 1) (L9 := [.ref 51, .long s0, .null, .int a3, .null]) (by decide +kernel) (by decide) rfl ?_
  refine tq_g_iinc (i := 3) (fun v101 => [.ref 51, .long s0, .null, .int v101, .null]) (by decide +kernel) rfl (1 : Int32) kc_1 (fun _ => rfl) (fun v101 ev101 => ?_)
  replace h := h v101 ev101
  refine tq_s_goto (off := -43) (tgt := 112) (by decide +kernel) (by decide +kernel) ?_
  exact hB112 _ _ _ h
def wb_X12_checksum_216 (B216 : Int64 → Int32 → tq_S → Prop) (Q : tq_O → tq_S → Prop) (a1 : Int64) (a3 : Int32) (z : tq_S) : Prop := (((tq_fi z 3279) ≤ a3 → Q (.inl (some (.long a1))) z) ∧ (¬ (tq_fi z 3279) ≤ a3 → vp_in a3 600 ∧ ∀ v101 : Int64, v101 = (((31 : Int64) * a1) + (Int32.toInt64 (tq_ai z 60 (Int32.toNatClampNeg a3)))) → ∀ v102 : Int32, v102 = a3 + (1 : Int32) → B216 v101 v102 z))
def wc_X12_checksum_216 (Q : tq_O → tq_S → Prop) (a1 : Int64) (a3 : Int32) (z : tq_S) : Prop := tq_lp (σ := Int64 × Int32 × tq_S) (fun B s => wb_X12_checksum_216 (fun b1 b3 z => B (b1, b3, z)) Q s.1 s.2.1 s.2.2) (a1, a3, z)
theorem ab_X12_checksum_216 {K : Nat × (Nat → Int32)} {x : Nat} {Q : tq_O → tq_S → Prop} {B216 : Int64 → Int32 → tq_S → Prop} {a1 : Int64} {a3 : Int32} {z : tq_S} (hB216 : ∀ (b1 : Int64) (b3 : Int32) (z : tq_S), B216 b1 b3 z → tq_T K 2 x mm_X12_checksum 216 [.ref 51, .long b1, .null, .int b3, .null] [] z Q) (h : wb_X12_checksum_216 B216 Q a1 a3 z) : tq_T K 2 x mm_X12_checksum 216 [.ref 51, .long a1, .null, .int a3, .null] [] z Q := by
  unfold wb_X12_checksum_216 at h
  refine tq_s_iload_n (kk := 3) (by decide +kernel) rfl ?_
  refine tq_s_aload_n (kk := 0) (by decide +kernel) rfl ?_
  refine fg_12_209_51 rfl (by decide +kernel) ?_
  refine tq_icmp_ge (off := 23) (tgt := 244) (by decide +kernel) (by decide +kernel) (fun hc => ?_) (fun hc => ?_)
  · replace h := h.1 hc
    refine tq_s_lload_n (kk := 1) (by decide +kernel) rfl ?_
    exact tq_ret_l (st := []) (by decide +kernel) rfl h
  · replace h := h.2 hc
    refine tq_s_ldc2 (i := 476) (v := (31 : Int64)) (by decide +kernel) (by decide +kernel) ?_
    refine tq_s_lload_n (kk := 1) (by decide +kernel) rfl ?_
    refine tq_s_lmul (by decide +kernel) ?_
    refine tq_s_aload_n (kk := 0) (by decide +kernel) rfl ?_
    refine fg_12_43_51 rfl (by decide +kernel) ?_
    refine tq_s_iload_n (kk := 3) (by decide +kernel) rfl ?_
    refine tq_s_cald (by decide +kernel) sh_60 h.1 ?_
    replace h := h.2
    refine tq_s_i2l (by decide +kernel) ?_
    refine tq_s_ladd (by decide +kernel) ?_
    refine tq_g_lstore_n (kk := 1) (fun v101 => [.ref 51, .long v101, .null, .int a3, .null]) (by decide +kernel) (by decide) (fun _ => rfl) (fun v101 ev101 => ?_)
    replace h := h v101 ev101
    refine tq_g_iinc (i := 3) (fun v102 => [.ref 51, .long v101, .null, .int v102, .null]) (by decide +kernel) rfl (1 : Int32) kc_1 (fun _ => rfl) (fun v102 ev102 => ?_)
    replace h := h v102 ev102
    refine tq_s_goto (off := -25) (tgt := 216) (by decide +kernel) (by decide +kernel) ?_
    exact hB216 _ _ _ h
theorem ac_X12_checksum_216 {K : Nat × (Nat → Int32)} {x : Nat} {Q : tq_O → tq_S → Prop} {a1 : Int64} {a3 : Int32} {z : tq_S} (h : wc_X12_checksum_216 Q a1 a3 z) : tq_T K 2 x mm_X12_checksum 216 [.ref 51, .long a1, .null, .int a3, .null] [] z Q :=
  tq_lp_T (σ := Int64 × Int32 × tq_S) (s := (a1, a3, z)) (G := fun s => tq_T K 2 x mm_X12_checksum 216 [.ref 51, .long s.1, .null, .int s.2.1, .null] [] s.2.2 Q) (fun B hB s h => ab_X12_checksum_216 (fun b1 b3 z h => hB (b1, b3, z) h) h) h
def wc_X12_checksum_214 (Q : tq_O → tq_S → Prop) (a1 : Int64) (z : tq_S) : Prop := wc_X12_checksum_216 Q a1 (0 : Int32) z
theorem ac_X12_checksum_214 {K : Nat × (Nat → Int32)} {x : Nat} {Q : tq_O → tq_S → Prop} {a1 : Int64} {z : tq_S} (h : wc_X12_checksum_214 Q a1 z) : tq_T K 2 x mm_X12_checksum 214 [.ref 51, .long a1, .null, .null, .null] [] z Q := by
  unfold wc_X12_checksum_214 at h
  refine tq_k_ic (n := 0) (v := (0 : Int32)) (by decide +kernel) kc_0 ?_
  refine tq_s_istore_n (kk := 3) (L9 := [.ref 51, .long a1, .null, .int (0 : Int32), .null]) (by decide +kernel) (by decide) rfl ?_
  exact ac_X12_checksum_216 h
def wb_X12_checksum_172 (B172 : Int64 → Int32 → tq_S → Prop) (Q : tq_O → tq_S → Prop) (a1 : Int64) (a3 : Int32) (z : tq_S) : Prop := (((tq_fi z 3290) ≤ a3 → wc_X12_checksum_214 Q a1 z) ∧ (¬ (tq_fi z 3290) ≤ a3 → vp_in a3 6 ∧ ∀ v101 : Int64, v101 = (((31 : Int64) * a1) + (Int32.toInt64 (tq_ai z 68 (Int32.toNatClampNeg a3)))) → vp_in a3 6 ∧ ∀ v102 : Int64, v102 = (((31 : Int64) * v101) + (Int32.toInt64 (tq_ai z 67 (Int32.toNatClampNeg a3)))) → ∀ v103 : Int32, v103 = a3 + (1 : Int32) → B172 v102 v103 z))
def wc_X12_checksum_172 (Q : tq_O → tq_S → Prop) (a1 : Int64) (a3 : Int32) (z : tq_S) : Prop := tq_lp (σ := Int64 × Int32 × tq_S) (fun B s => wb_X12_checksum_172 (fun b1 b3 z => B (b1, b3, z)) Q s.1 s.2.1 s.2.2) (a1, a3, z)
theorem ab_X12_checksum_172 {K : Nat × (Nat → Int32)} {x : Nat} {Q : tq_O → tq_S → Prop} {B172 : Int64 → Int32 → tq_S → Prop} {a1 : Int64} {a3 : Int32} {z : tq_S} (hB172 : ∀ (b1 : Int64) (b3 : Int32) (z : tq_S), B172 b1 b3 z → tq_T K 2 x mm_X12_checksum 172 [.ref 51, .long b1, .null, .int b3, .null] [] z Q) (h : wb_X12_checksum_172 B172 Q a1 a3 z) : tq_T K 2 x mm_X12_checksum 172 [.ref 51, .long a1, .null, .int a3, .null] [] z Q := by
  unfold wb_X12_checksum_172 at h
  refine tq_s_iload_n (kk := 3) (by decide +kernel) rfl ?_
  refine tq_s_aload_n (kk := 0) (by decide +kernel) rfl ?_
  refine fg_12_324_51 rfl (by decide +kernel) ?_
  refine tq_icmp_ge (off := 37) (tgt := 214) (by decide +kernel) (by decide +kernel) (fun hc => ?_) (fun hc => ?_)
  · replace h := h.1 hc
    exact tq_to (tq_lk1 (tq_lk1 (tq_lk1 (tq_ld1 (tq_lk1 tq_l0))))) (ac_X12_checksum_214 h)
  · replace h := h.2 hc
    refine tq_s_ldc2 (i := 476) (v := (31 : Int64)) (by decide +kernel) (by decide +kernel) ?_
    refine tq_s_lload_n (kk := 1) (by decide +kernel) rfl ?_
    refine tq_s_lmul (by decide +kernel) ?_
    refine tq_s_aload_n (kk := 0) (by decide +kernel) rfl ?_
    refine fg_12_71_51 rfl (by decide +kernel) ?_
    refine tq_s_iload_n (kk := 3) (by decide +kernel) rfl ?_
    refine tq_s_iald (by decide +kernel) sh_68 h.1 ?_
    replace h := h.2
    refine tq_s_i2l (by decide +kernel) ?_
    refine tq_s_ladd (by decide +kernel) ?_
    refine tq_g_lstore_n (kk := 1) (fun v101 => [.ref 51, .long v101, .null, .int a3, .null]) (by decide +kernel) (by decide) (fun _ => rfl) (fun v101 ev101 => ?_)
    replace h := h v101 ev101
    refine tq_s_ldc2 (i := 476) (v := (31 : Int64)) (by decide +kernel) (by decide +kernel) ?_
    refine tq_s_lload_n (kk := 1) (by decide +kernel) rfl ?_
    refine tq_s_lmul (by decide +kernel) ?_
    refine tq_s_aload_n (kk := 0) (by decide +kernel) rfl ?_
    refine fg_12_68_51 rfl (by decide +kernel) ?_
    refine tq_s_iload_n (kk := 3) (by decide +kernel) rfl ?_
    refine tq_s_iald (by decide +kernel) sh_67 h.1 ?_
    replace h := h.2
    refine tq_s_i2l (by decide +kernel) ?_
    refine tq_s_ladd (by decide +kernel) ?_
    refine tq_g_lstore_n (kk := 1) (fun v102 => [.ref 51, .long v102, .null, .int a3, .null]) (by decide +kernel) (by decide) (fun _ => rfl) (fun v102 ev102 => ?_)
    replace h := h v102 ev102
    refine tq_g_iinc (i := 3) (fun v103 => [.ref 51, .long v102, .null, .int v103, .null]) (by decide +kernel) rfl (1 : Int32) kc_1 (fun _ => rfl) (fun v103 ev103 => ?_)
    replace h := h v103 ev103
    refine tq_s_goto (off := -39) (tgt := 172) (by decide +kernel) (by decide +kernel) ?_
    exact hB172 _ _ _ h
theorem ac_X12_checksum_172 {K : Nat × (Nat → Int32)} {x : Nat} {Q : tq_O → tq_S → Prop} {a1 : Int64} {a3 : Int32} {z : tq_S} (h : wc_X12_checksum_172 Q a1 a3 z) : tq_T K 2 x mm_X12_checksum 172 [.ref 51, .long a1, .null, .int a3, .null] [] z Q :=
  tq_lp_T (σ := Int64 × Int32 × tq_S) (s := (a1, a3, z)) (G := fun s => tq_T K 2 x mm_X12_checksum 172 [.ref 51, .long s.1, .null, .int s.2.1, .null] [] s.2.2 Q) (fun B hB s h => ab_X12_checksum_172 (fun b1 b3 z h => hB (b1, b3, z) h) h) h
def wc_X12_checksum_158 (Q : tq_O → tq_S → Prop) (a1 : Int64) (z : tq_S) : Prop := ∀ v101 : Int64, v101 = (((31 : Int64) * a1) + (Int32.toInt64 (tq_fi z 3290))) → wc_X12_checksum_172 Q v101 (0 : Int32) z
theorem ac_X12_checksum_158 {K : Nat × (Nat → Int32)} {x : Nat} {Q : tq_O → tq_S → Prop} {a1 : Int64} {z : tq_S} (h : wc_X12_checksum_158 Q a1 z) : tq_T K 2 x mm_X12_checksum 158 [.ref 51, .long a1, .null, .null, .null] [] z Q := by
  unfold wc_X12_checksum_158 at h
  refine tq_s_ldc2 (i := 476) (v := (31 : Int64)) (by decide +kernel) (by decide +kernel) ?_
  refine tq_s_lload_n (kk := 1) (by decide +kernel) rfl ?_
  refine tq_s_lmul (by decide +kernel) ?_
  refine tq_s_aload_n (kk := 0) (by decide +kernel) rfl ?_
  refine fg_12_324_51 rfl (by decide +kernel) ?_
  refine tq_s_i2l (by decide +kernel) ?_
  refine tq_s_ladd (by decide +kernel) ?_
  refine tq_g_lstore_n (kk := 1) (fun v101 => [.ref 51, .long v101, .null, .null, .null]) (by decide +kernel) (by decide) (fun _ => rfl) (fun v101 ev101 => ?_)
  replace h := h v101 ev101
  refine tq_k_ic (n := 0) (v := (0 : Int32)) (by decide +kernel) kc_0 ?_
  refine tq_s_istore_n (kk := 3) (L9 := [.ref 51, .long v101, .null, .int (0 : Int32), .null]) (by decide +kernel) (by decide) rfl ?_
  exact ac_X12_checksum_172 h
def wb_X12_checksum_112 (B112 : Int64 → Int32 → tq_S → Prop) (Q : tq_O → tq_S → Prop) (a1 : Int64) (a3 : Int32) (z : tq_S) : Prop := (((64 : Int32) ≤ a3 → wc_X12_checksum_158 Q a1 z) ∧ (¬ (64 : Int32) ≤ a3 → (((tq_fi z 3272) = 0 → wc_X12_checksum_158 Q a1 z) ∧ (¬ (tq_fi z 3272) = 0 → vp_in a3 64 ∧ (((tq_ai z 52 (Int32.toNatClampNeg a3)) = 0 → wc_X12_checksum_151 B112 Q a3 a1 z) ∧ (¬ (tq_ai z 52 (Int32.toNatClampNeg a3)) = 0 → vp_in a3 64 ∧ wc_X12_checksum_151 B112 Q a3 (((31 : Int64) * a1) + (Int32.toInt64 (tq_ai z 56 (Int32.toNatClampNeg a3)))) z))))))
def wc_X12_checksum_112 (Q : tq_O → tq_S → Prop) (a1 : Int64) (a3 : Int32) (z : tq_S) : Prop := tq_lp (σ := Int64 × Int32 × tq_S) (fun B s => wb_X12_checksum_112 (fun b1 b3 z => B (b1, b3, z)) Q s.1 s.2.1 s.2.2) (a1, a3, z)
theorem ab_X12_checksum_112 {K : Nat × (Nat → Int32)} {x : Nat} {Q : tq_O → tq_S → Prop} {B112 : Int64 → Int32 → tq_S → Prop} {a1 : Int64} {a3 : Int32} {z : tq_S} (hB112 : ∀ (b1 : Int64) (b3 : Int32) (z : tq_S), B112 b1 b3 z → tq_T K 2 x mm_X12_checksum 112 [.ref 51, .long b1, .null, .int b3, .null] [] z Q) (h : wb_X12_checksum_112 B112 Q a1 a3 z) : tq_T K 2 x mm_X12_checksum 112 [.ref 51, .long a1, .null, .int a3, .null] [] z Q := by
  unfold wb_X12_checksum_112 at h
  refine tq_s_iload_n (kk := 3) (by decide +kernel) rfl ?_
  refine tq_k_bi (n := 64) (v := (64 : Int32)) (by decide +kernel) kb_64 ?_
  refine tq_icmp_ge (off := 43) (tgt := 158) (by decide +kernel) (by decide +kernel) (fun hc => ?_) (fun hc => ?_)
  · replace h := h.1 hc
    exact tq_to (tq_lk1 (tq_lk1 (tq_lk1 (tq_ld1 (tq_lk1 tq_l0))))) (ac_X12_checksum_158 h)
  · replace h := h.2 hc
    refine tq_s_aload_n (kk := 0) (by decide +kernel) rfl ?_
    refine fg_12_132_51 rfl (by decide +kernel) ?_
    refine tq_if_eq (off := 36) (tgt := 158) (by decide +kernel) (by decide +kernel) (fun hc => ?_) (fun hc => ?_)
    · replace h := h.1 hc
      exact tq_to (tq_lk1 (tq_lk1 (tq_lk1 (tq_ld1 (tq_lk1 tq_l0))))) (ac_X12_checksum_158 h)
    · replace h := h.2 hc
      refine tq_s_aload_n (kk := 0) (by decide +kernel) rfl ?_
      refine fg_12_16_51 rfl (by decide +kernel) ?_
      refine tq_s_iload_n (kk := 3) (by decide +kernel) rfl ?_
      refine tq_s_zald (by decide +kernel) sh_52 h.1 ?_
      replace h := h.2
      refine tq_if_eq (off := 19) (tgt := 150) (by decide +kernel) (by decide +kernel) (fun hc => ?_) (fun hc => ?_)
      · replace h := h.1 hc
        refine tq_s_lload_n (kk := 1) (by decide +kernel) rfl ?_
        exact tq_to (tq_lk1 (tq_ld1 (tq_lk1 (tq_lk1 (tq_lk1 tq_l0))))) (ac_X12_checksum_151 hB112 h)
      · replace h := h.2 hc
        refine tq_s_ldc2 (i := 476) (v := (31 : Int64)) (by decide +kernel) (by decide +kernel) ?_
        refine tq_s_lload_n (kk := 1) (by decide +kernel) rfl ?_
        refine tq_s_lmul (by decide +kernel) ?_
        refine tq_s_aload_n (kk := 0) (by decide +kernel) rfl ?_
        refine fg_12_30_51 rfl (by decide +kernel) ?_
        refine tq_s_iload_n (kk := 3) (by decide +kernel) rfl ?_
        refine tq_s_cald (by decide +kernel) sh_56 h.1 ?_
        replace h := h.2
        refine tq_s_i2l (by decide +kernel) ?_
        refine tq_s_ladd (by decide +kernel) ?_
        refine tq_s_goto (off := 4) (tgt := 151) (by decide +kernel) (by decide +kernel) ?_
        exact tq_to (tq_lk1 (tq_ld1 (tq_lk1 (tq_lk1 (tq_lk1 tq_l0))))) (ac_X12_checksum_151 hB112 h)
theorem ac_X12_checksum_112 {K : Nat × (Nat → Int32)} {x : Nat} {Q : tq_O → tq_S → Prop} {a1 : Int64} {a3 : Int32} {z : tq_S} (h : wc_X12_checksum_112 Q a1 a3 z) : tq_T K 2 x mm_X12_checksum 112 [.ref 51, .long a1, .null, .int a3, .null] [] z Q :=
  tq_lp_T (σ := Int64 × Int32 × tq_S) (s := (a1, a3, z)) (G := fun s => tq_T K 2 x mm_X12_checksum 112 [.ref 51, .long s.1, .null, .int s.2.1, .null] [] s.2.2 Q) (fun B hB s h => ab_X12_checksum_112 (fun b1 b3 z h => hB (b1, b3, z) h) h) h
def wc_X12_checksum_110 (Q : tq_O → tq_S → Prop) (a1 : Int64) (z : tq_S) : Prop := wc_X12_checksum_112 Q a1 (0 : Int32) z
theorem ac_X12_checksum_110 {K : Nat × (Nat → Int32)} {x : Nat} {Q : tq_O → tq_S → Prop} {a1 : Int64} {z : tq_S} (h : wc_X12_checksum_110 Q a1 z) : tq_T K 2 x mm_X12_checksum 110 [.ref 51, .long a1, .null, .null, .null] [] z Q := by
  unfold wc_X12_checksum_110 at h
  refine tq_k_ic (n := 0) (v := (0 : Int32)) (by decide +kernel) kc_0 ?_
  refine tq_s_istore_n (kk := 3) (L9 := [.ref 51, .long a1, .null, .int (0 : Int32), .null]) (by decide +kernel) (by decide) rfl ?_
  exact ac_X12_checksum_112 h
def wb_X12_checksum_55 (B55 : Int64 → Int32 → tq_S → Prop) (Q : tq_O → tq_S → Prop) (a1 : Int64) (a3 : Int32) (z : tq_S) : Prop := (((tq_fi z 3266) ≤ a3 → wc_X12_checksum_110 Q a1 z) ∧ (¬ (tq_fi z 3266) ≤ a3 → wc_X12_checksum_66 B55 Q a1 a3 (0 : Int32) z))
def wc_X12_checksum_55 (Q : tq_O → tq_S → Prop) (a1 : Int64) (a3 : Int32) (z : tq_S) : Prop := tq_lp (σ := Int64 × Int32 × tq_S) (fun B s => wb_X12_checksum_55 (fun b1 b3 z => B (b1, b3, z)) Q s.1 s.2.1 s.2.2) (a1, a3, z)
theorem ab_X12_checksum_55 {K : Nat × (Nat → Int32)} {x : Nat} {Q : tq_O → tq_S → Prop} {B55 : Int64 → Int32 → tq_S → Prop} {a1 : Int64} {a3 : Int32} {z : tq_S} (hB55 : ∀ (b1 : Int64) (b3 : Int32) (z : tq_S), B55 b1 b3 z → tq_T K 2 x mm_X12_checksum 55 [.ref 51, .long b1, .null, .int b3, .null] [] z Q) (h : wb_X12_checksum_55 B55 Q a1 a3 z) : tq_T K 2 x mm_X12_checksum 55 [.ref 51, .long a1, .null, .int a3, .null] [] z Q := by
  unfold wb_X12_checksum_55 at h
  refine tq_s_iload_n (kk := 3) (by decide +kernel) rfl ?_
  refine tq_s_aload_n (kk := 0) (by decide +kernel) rfl ?_
  refine fg_12_13_51 rfl (by decide +kernel) ?_
  refine tq_icmp_ge (off := 50) (tgt := 110) (by decide +kernel) (by decide +kernel) (fun hc => ?_) (fun hc => ?_)
  · replace h := h.1 hc
    exact tq_to (tq_lk1 (tq_lk1 (tq_lk1 (tq_ld1 (tq_lk1 tq_l0))))) (ac_X12_checksum_110 h)
  · replace h := h.2 hc
    refine tq_k_ic (n := 0) (v := (0 : Int32)) (by decide +kernel) kc_0 ?_
    refine tq_s_istore (i := 4) (L9 := [.ref 51, .long a1, .null, .int a3, .int (0 : Int32)]) (by decide +kernel) (by decide) rfl ?_
    exact ac_X12_checksum_66 hB55 h
theorem ac_X12_checksum_55 {K : Nat × (Nat → Int32)} {x : Nat} {Q : tq_O → tq_S → Prop} {a1 : Int64} {a3 : Int32} {z : tq_S} (h : wc_X12_checksum_55 Q a1 a3 z) : tq_T K 2 x mm_X12_checksum 55 [.ref 51, .long a1, .null, .int a3, .null] [] z Q :=
  tq_lp_T (σ := Int64 × Int32 × tq_S) (s := (a1, a3, z)) (G := fun s => tq_T K 2 x mm_X12_checksum 55 [.ref 51, .long s.1, .null, .int s.2.1, .null] [] s.2.2 Q) (fun B hB s h => ab_X12_checksum_55 (fun b1 b3 z h => hB (b1, b3, z) h) h) h
def wc_X12_checksum_50 (Q : tq_O → tq_S → Prop) (s0 : Int32) (s1 : Int64) (z : tq_S) : Prop := ∀ v101 : Int64, v101 = (s1 + (Int32.toInt64 s0)) → wc_X12_checksum_55 Q v101 (0 : Int32) z
theorem ac_X12_checksum_50 {K : Nat × (Nat → Int32)} {x : Nat} {Q : tq_O → tq_S → Prop} {s0 : Int32} {s1 : Int64} {z : tq_S} (h : wc_X12_checksum_50 Q s0 s1 z) : tq_T K 2 x mm_X12_checksum 50 [.ref 51, .null, .null, .null, .null] [.int s0, .long s1] z Q := by
  unfold wc_X12_checksum_50 at h
  refine tq_s_i2l (by decide +kernel) ?_
  refine tq_s_ladd (by decide +kernel) ?_
  refine tq_g_lstore_n (kk := 1) (fun v101 => [.ref 51, .long v101, .null, .null, .null]) (by decide +kernel) (by decide) (fun _ => rfl) (fun v101 ev101 => ?_)
  replace h := h v101 ev101
  refine tq_k_ic (n := 0) (v := (0 : Int32)) (by decide +kernel) kc_0 ?_
  refine tq_s_istore_n (kk := 3) (L9 := [.ref 51, .long v101, .null, .int (0 : Int32), .null]) (by decide +kernel) (by decide) rfl ?_
  exact ac_X12_checksum_55 h
def wm_X12_checksum  (z : tq_S) (Q : tq_O → tq_S → Prop) : Prop := ∀ z1 : tq_S, z1 = tq_sfi z 3264 (0 : Int32) → ∀ v2 : Int64, v2 = (((31 : Int64) * (7 : Int64)) + (Int32.toInt64 (tq_fi z1 3265))) → ∀ v3 : Int64, v3 = (((31 : Int64) * v2) + (Int32.toInt64 (tq_fi z1 3266))) → (((tq_fi z1 3267) = 0 → wc_X12_checksum_50 Q (0 : Int32) ((31 : Int64) * v3) z1) ∧ (¬ (tq_fi z1 3267) = 0 → wc_X12_checksum_50 Q (1 : Int32) ((31 : Int64) * v3) z1))
theorem am_X12_checksum {K : Nat × (Nat → Int32)} {x : Nat} {z : tq_S} {Q : tq_O → tq_S → Prop}  (h : wm_X12_checksum z Q) : tq_M K 2 x mm_X12_checksum [.ref 51] z Q := by
  unfold wm_X12_checksum at h
  refine tq_enter (L := [.ref 51, .null, .null, .null, .null]) mf_X12_checksum.1 rfl rfl (Nat.le_of_ble_eq_true rfl) ?_
  refine tq_s_aload_n (kk := 0) (by decide +kernel) rfl ?_
  refine tq_k_ic (n := 0) (v := (0 : Int32)) (by decide +kernel) kc_0 ?_
  refine fp_12_129_51 rfl (by decide +kernel) (fun z1 ez1 => ?_)
  replace h := h z1 ez1
  refine tq_s_ldc2 (i := 474) (v := (7 : Int64)) (by decide +kernel) (by decide +kernel) ?_
  refine tq_s_lstore_n (kk := 1) (L9 := [.ref 51, .long (7 : Int64), .null, .null, .null]) (by decide +kernel) (by decide) rfl ?_
  refine tq_s_ldc2 (i := 476) (v := (31 : Int64)) (by decide +kernel) (by decide +kernel) ?_
  refine tq_s_lload_n (kk := 1) (by decide +kernel) rfl ?_
  refine tq_s_lmul (by decide +kernel) ?_
  refine tq_s_aload_n (kk := 0) (by decide +kernel) rfl ?_
  refine fg_12_7_51 rfl (by decide +kernel) ?_
  refine tq_s_i2l (by decide +kernel) ?_
  refine tq_s_ladd (by decide +kernel) ?_
  refine tq_g_lstore_n (kk := 1) (fun v2 => [.ref 51, .long v2, .null, .null, .null]) (by decide +kernel) (by decide) (fun _ => rfl) (fun v2 ev2 => ?_)
  replace h := h v2 ev2
  refine tq_s_ldc2 (i := 476) (v := (31 : Int64)) (by decide +kernel) (by decide +kernel) ?_
  refine tq_s_lload_n (kk := 1) (by decide +kernel) rfl ?_
  refine tq_s_lmul (by decide +kernel) ?_
  refine tq_s_aload_n (kk := 0) (by decide +kernel) rfl ?_
  refine fg_12_13_51 rfl (by decide +kernel) ?_
  refine tq_s_i2l (by decide +kernel) ?_
  refine tq_s_ladd (by decide +kernel) ?_
  refine tq_g_lstore_n (kk := 1) (fun v3 => [.ref 51, .long v3, .null, .null, .null]) (by decide +kernel) (by decide) (fun _ => rfl) (fun v3 ev3 => ?_)
  replace h := h v3 ev3
  refine tq_s_ldc2 (i := 476) (v := (31 : Int64)) (by decide +kernel) (by decide +kernel) ?_
  refine tq_s_lload_n (kk := 1) (by decide +kernel) rfl ?_
  refine tq_s_lmul (by decide +kernel) ?_
  refine tq_s_aload_n (kk := 0) (by decide +kernel) rfl ?_
  refine fg_12_142_51 rfl (by decide +kernel) ?_
  refine tq_if_eq (off := 7) (tgt := 49) (by decide +kernel) (by decide +kernel) (fun hc => ?_) (fun hc => ?_)
  · replace h := h.1 hc
    refine tq_k_ic (n := 0) (v := (0 : Int32)) (by decide +kernel) kc_0 ?_
    exact tq_to (tq_lk1 (tq_ld1 (tq_lk1 (tq_lk1 (tq_lk1 tq_l0))))) (ac_X12_checksum_50 h)
  · replace h := h.2 hc
    refine tq_k_ic (n := 1) (v := (1 : Int32)) (by decide +kernel) kc_1 ?_
    refine tq_s_goto (off := 4) (tgt := 50) (by decide +kernel) (by decide +kernel) ?_
    exact tq_to (tq_lk1 (tq_ld1 (tq_lk1 (tq_lk1 (tq_lk1 tq_l0))))) (ac_X12_checksum_50 h)
def wm_X12_isSound  (z : tq_S) (Q : tq_O → tq_S → Prop) : Prop := ∀ z1 : tq_S, z1 = tq_sfi z 3264 (0 : Int32) → Q (.inl (some (.int (1 : Int32)))) z1
theorem am_X12_isSound {K : Nat × (Nat → Int32)} {x : Nat} {z : tq_S} {Q : tq_O → tq_S → Prop}  (h : wm_X12_isSound z Q) : tq_M K 0 x mm_X12_isSound [.ref 51] z Q := by
  unfold wm_X12_isSound at h
  refine tq_enter (L := [.ref 51]) mf_X12_isSound.1 rfl rfl (Nat.le_of_ble_eq_true rfl) ?_
  refine tq_s_aload_n (kk := 0) (by decide +kernel) rfl ?_
  refine tq_k_ic (n := 0) (v := (0 : Int32)) (by decide +kernel) kc_0 ?_
  refine fp_12_129_51 rfl (by decide +kernel) (fun z1 ez1 => ?_)
  replace h := h z1 ez1
  refine tq_k_ic (n := 1) (v := (1 : Int32)) (by decide +kernel) kc_1 ?_
  exact tq_ret_z (st := []) (ty := .boolean) (by decide +kernel) (by decide +kernel) rfl h
def wm_X11_isFrom (a0 : Int32) (a1 : Int32) (a2 : Int32) (z : tq_S) (Q : tq_O → tq_S → Prop) : Prop := ((a1 < a0 → Q (.inl (some (.int (0 : Int32)))) z) ∧ (¬ a1 < a0 → ((a2 < a1 → Q (.inl (some (.int (0 : Int32)))) z) ∧ (¬ a2 < a1 → Q (.inl (some (.int (1 : Int32)))) z))))
theorem am_X11_isFrom {K : Nat × (Nat → Int32)} {x : Nat} {z : tq_S} {Q : tq_O → tq_S → Prop} {a0 : Int32} {a1 : Int32} {a2 : Int32} (h : wm_X11_isFrom a0 a1 a2 z Q) : tq_M K 0 x mm_X11_isFrom [.int a0, .int a1, .int a2] z Q := by
  unfold wm_X11_isFrom at h
  refine tq_enter (L := [.int a0, .int a1, .int a2]) mf_X11_isFrom.1 rfl rfl (Nat.le_of_ble_eq_true rfl) ?_
  refine tq_s_iload_n (kk := 1) (by decide +kernel) rfl ?_
  refine tq_s_iload_n (kk := 0) (by decide +kernel) rfl ?_
  refine tq_icmp_lt (off := 12) (tgt := 14) (by decide +kernel) (by decide +kernel) (fun hc => ?_) (fun hc => ?_)
  · replace h := h.1 hc
    refine tq_k_ic (n := 0) (v := (0 : Int32)) (by decide +kernel) kc_0 ?_
    exact tq_ret_z (st := []) (ty := .boolean) (by decide +kernel) (by decide +kernel) rfl h
  · replace h := h.2 hc
    refine tq_s_iload_n (kk := 1) (by decide +kernel) rfl ?_
    refine tq_s_iload_n (kk := 2) (by decide +kernel) rfl ?_
    refine tq_icmp_gt (off := 7) (tgt := 14) (by decide +kernel) (by decide +kernel) (fun hc => ?_) (fun hc => ?_)
    · replace h := h.1 hc
      refine tq_k_ic (n := 0) (v := (0 : Int32)) (by decide +kernel) kc_0 ?_
      exact tq_ret_z (st := []) (ty := .boolean) (by decide +kernel) (by decide +kernel) rfl h
    · replace h := h.2 hc
      refine tq_k_ic (n := 1) (v := (1 : Int32)) (by decide +kernel) kc_1 ?_
      refine tq_s_goto (off := 4) (tgt := 15) (by decide +kernel) (by decide +kernel) ?_
      exact tq_ret_z (st := []) (ty := .boolean) (by decide +kernel) (by decide +kernel) rfl h
def wb_X1_rectangleOf_12 (B12 : Int64 → Int32 → tq_S → Prop) (Q : tq_O → tq_S → Prop) (a1 : Int32) (a2 : Int64) (a4 : Int64) (a6 : Int32) (z : tq_S) : Prop := ((a1 ≤ a6 → Q (.inl (some (.long a4))) z) ∧ (¬ a1 ≤ a6 → ∀ v101 : Int64, v101 = (a4 ||| (a2 <<< ((Int32.toInt64 ((8 : Int32) * a6)) &&& 63))) → ∀ v102 : Int32, v102 = a6 + (1 : Int32) → B12 v101 v102 z))
def wc_X1_rectangleOf_12 (Q : tq_O → tq_S → Prop) (a1 : Int32) (a2 : Int64) (a4 : Int64) (a6 : Int32) (z : tq_S) : Prop := tq_lp (σ := Int64 × Int32 × tq_S) (fun B s => wb_X1_rectangleOf_12 (fun b4 b6 z => B (b4, b6, z)) Q a1 a2 s.1 s.2.1 s.2.2) (a4, a6, z)
theorem ab_X1_rectangleOf_12 {K : Nat × (Nat → Int32)} {x : Nat} {Q : tq_O → tq_S → Prop} {B12 : Int64 → Int32 → tq_S → Prop} {a1 : Int32} {a2 : Int64} {a4 : Int64} {a6 : Int32} {z : tq_S} (hB12 : ∀ (b4 : Int64) (b6 : Int32) (z : tq_S), B12 b4 b6 z → tq_T K 0 x mm_X1_rectangleOf 12 [.null, .int a1, .long a2, .null, .long b4, .null, .int b6] [] z Q) (h : wb_X1_rectangleOf_12 B12 Q a1 a2 a4 a6 z) : tq_T K 0 x mm_X1_rectangleOf 12 [.null, .int a1, .long a2, .null, .long a4, .null, .int a6] [] z Q := by
  unfold wb_X1_rectangleOf_12 at h
  refine tq_s_iload (i := 6) (by decide +kernel) rfl ?_
  refine tq_s_iload_n (kk := 1) (by decide +kernel) rfl ?_
  refine tq_icmp_ge (off := 21) (tgt := 36) (by decide +kernel) (by decide +kernel) (fun hc => ?_) (fun hc => ?_)
  · replace h := h.1 hc
    refine tq_s_lload (i := 4) (by decide +kernel) rfl ?_
    exact tq_ret_l (st := []) (by decide +kernel) rfl h
  · replace h := h.2 hc
    refine tq_s_lload (i := 4) (by decide +kernel) rfl ?_
    refine tq_s_lload_n (kk := 2) (by decide +kernel) rfl ?_
    refine tq_k_bi (n := 8) (v := (8 : Int32)) (by decide +kernel) kb_8 ?_
    refine tq_s_iload (i := 6) (by decide +kernel) rfl ?_
    refine tq_s_imul (by decide +kernel) ?_
    refine tq_s_lshl (by decide +kernel) ?_
    refine tq_s_lor (by decide +kernel) ?_
    refine tq_g_lstore (i := 4) (fun v101 => [.null, .int a1, .long a2, .null, .long v101, .null, .int a6]) (by decide +kernel) (by decide) (fun _ => rfl) (fun v101 ev101 => ?_)
    replace h := h v101 ev101
    refine tq_g_iinc (i := 6) (fun v102 => [.null, .int a1, .long a2, .null, .long v101, .null, .int v102]) (by decide +kernel) rfl (1 : Int32) kc_1 (fun _ => rfl) (fun v102 ev102 => ?_)
    replace h := h v102 ev102
    refine tq_s_goto (off := -21) (tgt := 12) (by decide +kernel) (by decide +kernel) ?_
    exact hB12 _ _ _ h
theorem ac_X1_rectangleOf_12 {K : Nat × (Nat → Int32)} {x : Nat} {Q : tq_O → tq_S → Prop} {a1 : Int32} {a2 : Int64} {a4 : Int64} {a6 : Int32} {z : tq_S} (h : wc_X1_rectangleOf_12 Q a1 a2 a4 a6 z) : tq_T K 0 x mm_X1_rectangleOf 12 [.null, .int a1, .long a2, .null, .long a4, .null, .int a6] [] z Q :=
  tq_lp_T (σ := Int64 × Int32 × tq_S) (s := (a4, a6, z)) (G := fun s => tq_T K 0 x mm_X1_rectangleOf 12 [.null, .int a1, .long a2, .null, .long s.1, .null, .int s.2.1] [] s.2.2 Q) (fun B hB s h => ab_X1_rectangleOf_12 (fun b4 b6 z h => hB (b4, b6, z) h) h) h
def wm_X1_rectangleOf (a0 : Int32) (a1 : Int32) (z : tq_S) (Q : tq_O → tq_S → Prop) : Prop := ∀ v1 : Int64, v1 = (((1 : Int64) <<< ((Int32.toInt64 a0) &&& 63)) - (1 : Int64)) → wc_X1_rectangleOf_12 Q a1 v1 (0 : Int64) (0 : Int32) z
theorem am_X1_rectangleOf {K : Nat × (Nat → Int32)} {x : Nat} {z : tq_S} {Q : tq_O → tq_S → Prop} {a0 : Int32} {a1 : Int32} (h : wm_X1_rectangleOf a0 a1 z Q) : tq_M K 0 x mm_X1_rectangleOf [.int a0, .int a1] z Q := by
  unfold wm_X1_rectangleOf at h
  refine tq_enter (L := [.int a0, .int a1, .null, .null, .null, .null, .null]) mf_X1_rectangleOf.1 rfl rfl (Nat.le_of_ble_eq_true rfl) ?_
  refine tq_k_lc (n := 1) (v := (1 : Int64)) (by decide +kernel) (by decide +kernel) ?_
  refine tq_s_iload_n (kk := 0) (by decide +kernel) rfl ?_
  refine tq_s_lshl (by decide +kernel) ?_
  refine tq_k_lc (n := 1) (v := (1 : Int64)) (by decide +kernel) (by decide +kernel) ?_
  refine tq_s_lsub (by decide +kernel) ?_
  refine tq_g_lstore_n (kk := 2) (fun v1 => [.int a0, .int a1, .long v1, .null, .null, .null, .null]) (by decide +kernel) (by decide) (fun _ => rfl) (fun v1 ev1 => ?_)
  replace h := h v1 ev1
  refine tq_k_lc (n := 0) (v := (0 : Int64)) (by decide +kernel) (by decide +kernel) ?_
  refine tq_s_lstore (i := 4) (L9 := [.int a0, .int a1, .long v1, .null, .long (0 : Int64), .null, .null]) (by decide +kernel) (by decide) rfl ?_
  refine tq_k_ic (n := 0) (v := (0 : Int32)) (by decide +kernel) kc_0 ?_
  refine tq_s_istore (i := 6) (L9 := [.int a0, .int a1, .long v1, .null, .long (0 : Int64), .null, .int (0 : Int32)]) (by decide +kernel) (by decide) rfl ?_
  exact tq_to (tq_ld1 (tq_lk1 (tq_lk1 (tq_lk1 (tq_lk1 (tq_lk1 (tq_lk1 tq_l0))))))) (ac_X1_rectangleOf_12 h)
def wm_X1_tell (a1 : Int32) (a2 : Int32) (a3 : Int64) (z : tq_S) (Q : tq_O → tq_S → Prop) : Prop := ∀ z1 : tq_S, z1 = tq_sfi z 64 a1 → ∀ z2 : tq_S, z2 = tq_sfi z1 65 a2 → ∀ z3 : tq_S, z3 = tq_sfl z2 67 a3 → ∀ z4 : tq_S, z4 = tq_sfi z3 66 (0 : Int32) → ∀ z5 : tq_S, z5 = tq_sfi z4 68 ((tq_fi z4 68) + (1 : Int32)) → Q (.inl none) z5
theorem am_X1_tell {K : Nat × (Nat → Int32)} {x : Nat} {z : tq_S} {Q : tq_O → tq_S → Prop} {a1 : Int32} {a2 : Int32} {a3 : Int64} (h : wm_X1_tell a1 a2 a3 z Q) : tq_M K 0 x mm_X1_tell [.ref 1, .int a1, .int a2, .long a3] z Q := by
  unfold wm_X1_tell at h
  refine tq_enter (L := [.ref 1, .int a1, .int a2, .long a3, .null]) mf_X1_tell.1 rfl rfl (Nat.le_of_ble_eq_true rfl) ?_
  refine tq_s_aload_n (kk := 0) (by decide +kernel) rfl ?_
  refine tq_s_iload_n (kk := 1) (by decide +kernel) rfl ?_
  refine fp_1_7_1 rfl (by decide +kernel) (fun z1 ez1 => ?_)
  replace h := h z1 ez1
  refine tq_s_aload_n (kk := 0) (by decide +kernel) rfl ?_
  refine tq_s_iload_n (kk := 2) (by decide +kernel) rfl ?_
  refine fp_1_13_1 rfl (by decide +kernel) (fun z2 ez2 => ?_)
  replace h := h z2 ez2
  refine tq_s_aload_n (kk := 0) (by decide +kernel) rfl ?_
  refine tq_s_lload_n (kk := 3) (by decide +kernel) rfl ?_
  refine fp_1_20_1 rfl (by decide +kernel) (fun z3 ez3 => ?_)
  replace h := h z3 ez3
  refine tq_s_aload_n (kk := 0) (by decide +kernel) rfl ?_
  refine tq_k_ic (n := 0) (v := (0 : Int32)) (by decide +kernel) kc_0 ?_
  refine fp_1_16_1 rfl (by decide +kernel) ⟨by decide +kernel, by decide +kernel⟩ (fun z4 ez4 => ?_)
  replace h := h z4 ez4
  refine tq_s_aload_n (kk := 0) (by decide +kernel) rfl ?_
  refine tq_s_dup (by decide +kernel) rfl ?_
  refine fg_1_24_1 rfl (by decide +kernel) ?_
  refine tq_k_ic (n := 1) (v := (1 : Int32)) (by decide +kernel) kc_1 ?_
  refine tq_s_iadd (by decide +kernel) ?_
  refine fp_1_24_1 rfl (by decide +kernel) (fun z5 ez5 => ?_)
  replace h := h z5 ez5
  exact tq_ret_v (st := []) (by decide +kernel) rfl h
def wm_X2_forget  (z : tq_S) (Q : tq_O → tq_S → Prop) : Prop := ∀ z1 : tq_S, z1 = tq_sfi z 516 (0 : Int32) → ∀ z2 : tq_S, z2 = tq_sfi z1 519 (0 : Int32) → ∀ z3 : tq_S, z3 = tq_sfi z2 522 (0 : Int32) → ∀ z4 : tq_S, z4 = tq_sfl z3 517 (0 : Int64) → ∀ z5 : tq_S, z5 = tq_sfl z4 518 (0 : Int64) → Q (.inl none) z5
theorem am_X2_forget {K : Nat × (Nat → Int32)} {x : Nat} {z : tq_S} {Q : tq_O → tq_S → Prop}  (h : wm_X2_forget z Q) : tq_M K 0 x mm_X2_forget [.ref 8] z Q := by
  unfold wm_X2_forget at h
  refine tq_enter (L := [.ref 8]) mf_X2_forget.1 rfl rfl (Nat.le_of_ble_eq_true rfl) ?_
  refine tq_s_aload_n (kk := 0) (by decide +kernel) rfl ?_
  refine tq_k_ic (n := 0) (v := (0 : Int32)) (by decide +kernel) kc_0 ?_
  refine fp_2_28_8 rfl (by decide +kernel) ⟨by decide +kernel, by decide +kernel⟩ (fun z1 ez1 => ?_)
  replace h := h z1 ez1
  refine tq_s_aload_n (kk := 0) (by decide +kernel) rfl ?_
  refine tq_k_ic (n := 0) (v := (0 : Int32)) (by decide +kernel) kc_0 ?_
  refine fp_2_32_8 rfl (by decide +kernel) ⟨by decide +kernel, by decide +kernel⟩ (fun z2 ez2 => ?_)
  replace h := h z2 ez2
  refine tq_s_aload_n (kk := 0) (by decide +kernel) rfl ?_
  refine tq_k_ic (n := 0) (v := (0 : Int32)) (by decide +kernel) kc_0 ?_
  refine fp_2_24_8 rfl (by decide +kernel) (fun z3 ez3 => ?_)
  replace h := h z3 ez3
  refine tq_s_aload_n (kk := 0) (by decide +kernel) rfl ?_
  refine tq_k_lc (n := 0) (v := (0 : Int64)) (by decide +kernel) (by decide +kernel) ?_
  refine fp_2_35_8 rfl (by decide +kernel) (fun z4 ez4 => ?_)
  replace h := h z4 ez4
  refine tq_s_aload_n (kk := 0) (by decide +kernel) rfl ?_
  refine tq_k_lc (n := 0) (v := (0 : Int64)) (by decide +kernel) (by decide +kernel) ?_
  refine fp_2_39_8 rfl (by decide +kernel) (fun z5 ez5 => ?_)
  replace h := h z5 ez5
  exact tq_ret_v (st := []) (by decide +kernel) rfl h
def wm_J13_bitCount_95d88 (a0 : Int64) (z : tq_S) (Q : tq_O → tq_S → Prop) : Prop := ∀ v1 : Int64, v1 = (a0 - (((Int64.toUInt64 a0) >>> ((Int32.toInt64 (1 : Int32)).toUInt64 &&& Int64.toUInt64 63)).toInt64 &&& (6148914691236517205 : Int64))) → ∀ v2 : Int64, v2 = ((v1 &&& (3689348814741910323 : Int64)) + (((Int64.toUInt64 v1) >>> ((Int32.toInt64 (2 : Int32)).toUInt64 &&& Int64.toUInt64 63)).toInt64 &&& (3689348814741910323 : Int64))) → ∀ v3 : Int64, v3 = ((v2 + ((Int64.toUInt64 v2) >>> ((Int32.toInt64 (4 : Int32)).toUInt64 &&& Int64.toUInt64 63)).toInt64) &&& (1085102592571150095 : Int64)) → ∀ v4 : Int64, v4 = (v3 + ((Int64.toUInt64 v3) >>> ((Int32.toInt64 (8 : Int32)).toUInt64 &&& Int64.toUInt64 63)).toInt64) → ∀ v5 : Int64, v5 = (v4 + ((Int64.toUInt64 v4) >>> ((Int32.toInt64 (16 : Int32)).toUInt64 &&& Int64.toUInt64 63)).toInt64) → ∀ v6 : Int64, v6 = (v5 + ((Int64.toUInt64 v5) >>> ((Int32.toInt64 (32 : Int32)).toUInt64 &&& Int64.toUInt64 63)).toInt64) → Q (.inl (some (.int ((Int64.toInt32 v6) &&& (127 : Int32))))) z
theorem am_J13_bitCount_95d88 {K : Nat × (Nat → Int32)} {x : Nat} {z : tq_S} {Q : tq_O → tq_S → Prop} {a0 : Int64} (h : wm_J13_bitCount_95d88 a0 z Q) : tq_M K 0 x mm_J13_bitCount_95d88 [.long a0] z Q := by
  unfold wm_J13_bitCount_95d88 at h
  refine tq_enter (L := [.long a0, .null]) mf_J13_bitCount_95d88.1 rfl rfl (Nat.le_of_ble_eq_true rfl) ?_
  refine tq_s_lload_n (kk := 0) (by decide +kernel) rfl ?_
  refine tq_s_lload_n (kk := 0) (by decide +kernel) rfl ?_
  refine tq_k_ic (n := 1) (v := (1 : Int32)) (by decide +kernel) kc_1 ?_
  refine tq_s_lushr (by decide +kernel) ?_
  refine tq_s_ldc2 (i := 314) (v := (6148914691236517205 : Int64)) (by decide +kernel) (by decide +kernel) ?_
  refine tq_s_land (by decide +kernel) ?_
  refine tq_s_lsub (by decide +kernel) ?_
  refine tq_g_lstore_n (kk := 0) (fun v1 => [.long v1, .null]) (by decide +kernel) (by decide) (fun _ => rfl) (fun v1 ev1 => ?_)
  replace h := h v1 ev1
  refine tq_s_lload_n (kk := 0) (by decide +kernel) rfl ?_
  refine tq_s_ldc2 (i := 316) (v := (3689348814741910323 : Int64)) (by decide +kernel) (by decide +kernel) ?_
  refine tq_s_land (by decide +kernel) ?_
  refine tq_s_lload_n (kk := 0) (by decide +kernel) rfl ?_
  refine tq_k_ic (n := 2) (v := (2 : Int32)) (by decide +kernel) kc_2 ?_
  refine tq_s_lushr (by decide +kernel) ?_
  refine tq_s_ldc2 (i := 316) (v := (3689348814741910323 : Int64)) (by decide +kernel) (by decide +kernel) ?_
  refine tq_s_land (by decide +kernel) ?_
  refine tq_s_ladd (by decide +kernel) ?_
  refine tq_g_lstore_n (kk := 0) (fun v2 => [.long v2, .null]) (by decide +kernel) (by decide) (fun _ => rfl) (fun v2 ev2 => ?_)
  replace h := h v2 ev2
  refine tq_s_lload_n (kk := 0) (by decide +kernel) rfl ?_
  refine tq_s_lload_n (kk := 0) (by decide +kernel) rfl ?_
  refine tq_k_ic (n := 4) (v := (4 : Int32)) (by decide +kernel) kc_4 ?_
  refine tq_s_lushr (by decide +kernel) ?_
  refine tq_s_ladd (by decide +kernel) ?_
  refine tq_s_ldc2 (i := 318) (v := (1085102592571150095 : Int64)) (by decide +kernel) (by decide +kernel) ?_
  refine tq_s_land (by decide +kernel) ?_
  refine tq_g_lstore_n (kk := 0) (fun v3 => [.long v3, .null]) (by decide +kernel) (by decide) (fun _ => rfl) (fun v3 ev3 => ?_)
  replace h := h v3 ev3
  refine tq_s_lload_n (kk := 0) (by decide +kernel) rfl ?_
  refine tq_s_lload_n (kk := 0) (by decide +kernel) rfl ?_
  refine tq_k_bi (n := 8) (v := (8 : Int32)) (by decide +kernel) kb_8 ?_
  refine tq_s_lushr (by decide +kernel) ?_
  refine tq_s_ladd (by decide +kernel) ?_
  refine tq_g_lstore_n (kk := 0) (fun v4 => [.long v4, .null]) (by decide +kernel) (by decide) (fun _ => rfl) (fun v4 ev4 => ?_)
  replace h := h v4 ev4
  refine tq_s_lload_n (kk := 0) (by decide +kernel) rfl ?_
  refine tq_s_lload_n (kk := 0) (by decide +kernel) rfl ?_
  refine tq_k_bi (n := 16) (v := (16 : Int32)) (by decide +kernel) kb_16 ?_
  refine tq_s_lushr (by decide +kernel) ?_
  refine tq_s_ladd (by decide +kernel) ?_
  refine tq_g_lstore_n (kk := 0) (fun v5 => [.long v5, .null]) (by decide +kernel) (by decide) (fun _ => rfl) (fun v5 ev5 => ?_)
  replace h := h v5 ev5
  refine tq_s_lload_n (kk := 0) (by decide +kernel) rfl ?_
  refine tq_s_lload_n (kk := 0) (by decide +kernel) rfl ?_
  refine tq_k_bi (n := 32) (v := (32 : Int32)) (by decide +kernel) kb_32 ?_
  refine tq_s_lushr (by decide +kernel) ?_
  refine tq_s_ladd (by decide +kernel) ?_
  refine tq_g_lstore_n (kk := 0) (fun v6 => [.long v6, .null]) (by decide +kernel) (by decide) (fun _ => rfl) (fun v6 ev6 => ?_)
  replace h := h v6 ev6
  refine tq_s_lload_n (kk := 0) (by decide +kernel) rfl ?_
  refine tq_s_l2i (by decide +kernel) ?_
  refine tq_k_bi (n := 127) (v := (127 : Int32)) (by decide +kernel) kb_127 ?_
  refine tq_s_iand (by decide +kernel) ?_
  exact tq_ret_i (st := []) (by decide +kernel) rfl h
def wm_X1_size  (z : tq_S) (Q : tq_O → tq_S → Prop) : Prop := wm_J13_bitCount_95d88 (tq_fl z 67) z (tq_wi fun r2 z1 => Q (.inl (some (.int r2))) z1)
theorem am_X1_size {K : Nat × (Nat → Int32)} {x : Nat} {z : tq_S} {Q : tq_O → tq_S → Prop}  (h : wm_X1_size z Q) : tq_M K 1 x mm_X1_size [.ref 1] z Q := by
  unfold wm_X1_size at h
  refine tq_enter (L := [.ref 1]) mf_X1_size.1 rfl rfl (Nat.le_of_ble_eq_true rfl) ?_
  refine tq_s_aload_n (kk := 0) (by decide +kernel) rfl ?_
  refine fg_1_20_1 rfl (by decide +kernel) ?_
  refine tq_callS (as := [.long (tq_fl z 67)]) (st := []) (d1 := 0) (x1 := 0) (x2 := x) (by decide +kernel) ln_1_41 mf_J13_bitCount_95d88 rfl (by decide) np_J13_bitCount_95d88 rfl (Nat.le_of_ble_eq_true rfl) (by decide) (Nat.zero_add _).symm (tq_M_mono (am_J13_bitCount_95d88 h) ?_)
  refine tq_wi_e (fun r2 z1 h => ?_)
  exact tq_ret_i (st := []) (by decide +kernel) rfl h
def wc_X11_board_20 (Q : tq_O → tq_S → Prop)  (z : tq_S) : Prop := Q (.inr 1) z
theorem ac_X11_board_20 {K : Nat × (Nat → Int32)} {Q : tq_O → tq_S → Prop}  {z : tq_S} (h : wc_X11_board_20 Q z) : tq_T K 2 1 mm_X11_board 20 [.null, .null, .null] [] z Q := by
  unfold wc_X11_board_20 at h
  exact tq_throwS th_11_105_107 rfl (by decide +kernel) (by decide +kernel) (by decide +kernel) (by decide +kernel) (by decide +kernel) (Nat.le_of_ble_eq_true rfl) rfl (Nat.le_refl 1) h
def wm_X11_board (a1 : Int32) (a2 : Int32) (z : tq_S) (Q : tq_O → tq_S → Prop) : Prop := wm_X11_isFrom (1 : Int32) a1 (8 : Int32) z (tq_wi fun r2 z1 => ((r2 = 0 → wc_X11_board_20 Q z1) ∧ (¬ r2 = 0 → wm_X11_isFrom (1 : Int32) a2 (8 : Int32) z1 (tq_wi fun r4 z3 => ((¬ r4 = 0 → wm_X1_rectangleOf a1 a2 z3 (tq_wl fun r6 z5 => wm_X1_tell a1 a2 r6 z5 (tq_wv fun z7 => wm_X2_forget z7 (tq_wv fun z8 => wm_X1_size z8 (tq_wi fun r10 z9 => Q (.inl (some (.int r10))) z9))))) ∧ (r4 = 0 → wc_X11_board_20 Q z3))))))
theorem am_X11_board {K : Nat × (Nat → Int32)} {z : tq_S} {Q : tq_O → tq_S → Prop} {a1 : Int32} {a2 : Int32} (h : wm_X11_board a1 a2 z Q) : tq_M K 2 1 mm_X11_board [.ref 0, .int a1, .int a2] z Q := by
  unfold wm_X11_board at h
  refine tq_enter (L := [.ref 0, .int a1, .int a2]) mf_X11_board.1 rfl rfl (Nat.le_of_ble_eq_true rfl) ?_
  refine tq_k_ic (n := 1) (v := (1 : Int32)) (by decide +kernel) kc_1 ?_
  refine tq_s_iload_n (kk := 1) (by decide +kernel) rfl ?_
  refine tq_k_bi (n := 8) (v := (8 : Int32)) (by decide +kernel) kb_8 ?_
  refine tq_callS (as := [.int (1 : Int32), .int a1, .int (8 : Int32)]) (st := []) (d1 := 0) (x1 := 0) (x2 := 1) (by decide +kernel) ln_11_101 mf_X11_isFrom rfl (by decide) np_X11_isFrom rfl (Nat.le_of_ble_eq_true rfl) (by decide) (Nat.zero_add _).symm (tq_M_mono (am_X11_isFrom h) ?_)
  refine tq_wi_e (fun r2 z1 h => ?_)
  refine tq_if_eq (off := 13) (tgt := 20) (by decide +kernel) (by decide +kernel) (fun hc => ?_) (fun hc => ?_)
  · replace h := h.1 hc
    exact tq_to (tq_ld1 (tq_ld1 (tq_ld1 tq_l0))) (ac_X11_board_20 h)
  · replace h := h.2 hc
    refine tq_k_ic (n := 1) (v := (1 : Int32)) (by decide +kernel) kc_1 ?_
    refine tq_s_iload_n (kk := 2) (by decide +kernel) rfl ?_
    refine tq_k_bi (n := 8) (v := (8 : Int32)) (by decide +kernel) kb_8 ?_
    refine tq_callS (as := [.int (1 : Int32), .int a2, .int (8 : Int32)]) (st := []) (d1 := 0) (x1 := 0) (x2 := 1) (by decide +kernel) ln_11_101 mf_X11_isFrom rfl (by decide) np_X11_isFrom rfl (Nat.le_of_ble_eq_true rfl) (by decide) (Nat.zero_add _).symm (tq_M_mono (am_X11_isFrom h) ?_)
    refine tq_wi_e (fun r4 z3 h => ?_)
    refine tq_if_ne (off := 13) (tgt := 30) (by decide +kernel) (by decide +kernel) (fun hc => ?_) (fun hc => ?_)
    · replace h := h.1 hc
      refine tq_s_aload_n (kk := 0) (by decide +kernel) rfl ?_
      refine fg_11_10_0 rfl (by decide +kernel) ?_
      refine tq_s_iload_n (kk := 1) (by decide +kernel) rfl ?_
      refine tq_s_iload_n (kk := 2) (by decide +kernel) rfl ?_
      refine tq_s_iload_n (kk := 1) (by decide +kernel) rfl ?_
      refine tq_s_iload_n (kk := 2) (by decide +kernel) rfl ?_
      refine tq_callSN (as := [.int a1, .int a2]) (st := [.int a2, .int a1, .ref 1]) (d1 := 0) (x1 := 0) (x2 := 1) (by decide +kernel) ln_11_112 mf_X1_rectangleOf rfl (by decide) np_X1_rectangleOf rfl (Nat.le_of_ble_eq_true rfl) (by decide) (Nat.zero_add _).symm (tq_M_mono (am_X1_rectangleOf h) ?_)
      refine tq_wl_e (fun r6 z5 h => ?_)
      refine tq_callVN (as := [.int a1, .int a2, .long r6]) (st := []) (d1 := 0) (x1 := 0) (x2 := 1) (by decide +kernel) ln_11_116 mf_X1_tell rfl sh_1 rfl (by decide) np_X1_tell rfl (Nat.le_of_ble_eq_true rfl) (by decide) (Nat.zero_add _).symm (tq_M_mono (am_X1_tell h) ?_)
      refine tq_wv_e (fun z7 h => ?_)
      refine tq_s_aload_n (kk := 0) (by decide +kernel) rfl ?_
      refine fg_11_28_0 rfl (by decide +kernel) ?_
      refine tq_callVN (as := []) (st := []) (d1 := 0) (x1 := 0) (x2 := 1) (by decide +kernel) ln_11_120 mf_X2_forget rfl sh_8 rfl (by decide) np_X2_forget rfl (Nat.le_of_ble_eq_true rfl) (by decide) (Nat.zero_add _).symm (tq_M_mono (am_X2_forget h) ?_)
      refine tq_wv_e (fun z8 h => ?_)
      refine tq_s_aload_n (kk := 0) (by decide +kernel) rfl ?_
      refine fg_11_10_0 rfl (by decide +kernel) ?_
      refine tq_callVN (as := []) (st := []) (d1 := 1) (x1 := 0) (x2 := 1) (by decide +kernel) ln_11_123 mf_X1_size rfl sh_1 rfl (by decide) np_X1_size rfl (Nat.le_of_ble_eq_true rfl) (by decide) (Nat.zero_add _).symm (tq_M_mono (am_X1_size h) ?_)
      refine tq_wi_e (fun r10 z9 h => ?_)
      exact tq_ret_i (st := []) (by decide +kernel) rfl h
    · replace h := h.2 hc
      exact tq_to (tq_ld1 (tq_ld1 (tq_ld1 tq_l0))) (ac_X11_board_20 h)
def wm_X1_isForm (a0 : Int32) (a1 : Int32) (z : tq_S) (Q : tq_O → tq_S → Prop) : Prop := ((¬ a0 = (97 : Int32) → ((¬ a0 = (115 : Int32) → ((¬ a0 = (111 : Int32) → ((¬ a0 = (99 : Int32) → Q (.inl (some (.int (0 : Int32)))) z) ∧ (a0 = (99 : Int32) → wm_X11_isFrom (2 : Int32) a1 (8 : Int32) z (tq_wi fun r2 z1 => ((r2 = 0 → Q (.inl (some (.int (0 : Int32)))) z1) ∧ (¬ r2 = 0 → Q (.inl (some (.int (1 : Int32)))) z1)))))) ∧ (a0 = (111 : Int32) → wm_X11_isFrom (3 : Int32) a1 (8 : Int32) z (tq_wi fun r4 z3 => tq_nz r4 ∧ Q (.inl (some (.int r4))) z3)))) ∧ (a0 = (115 : Int32) → wm_X11_isFrom (1 : Int32) a1 (8 : Int32) z (tq_wi fun r6 z5 => tq_nz r6 ∧ Q (.inl (some (.int r6))) z5)))) ∧ (a0 = (97 : Int32) → wm_X11_isFrom (1 : Int32) a1 (4 : Int32) z (tq_wi fun r8 z7 => tq_nz r8 ∧ Q (.inl (some (.int r8))) z7)))
theorem am_X1_isForm {K : Nat × (Nat → Int32)} {x : Nat} {z : tq_S} {Q : tq_O → tq_S → Prop} {a0 : Int32} {a1 : Int32} (h : wm_X1_isForm a0 a1 z Q) : tq_M K 1 x mm_X1_isForm [.int a0, .int a1] z Q := by
  unfold wm_X1_isForm at h
  refine tq_enter (L := [.int a0, .int a1]) mf_X1_isForm.1 rfl rfl (Nat.le_of_ble_eq_true rfl) ?_
  refine tq_s_iload_n (kk := 0) (by decide +kernel) rfl ?_
  refine tq_k_bi (n := 97) (v := (97 : Int32)) (by decide +kernel) kb_97 ?_
  refine tq_icmp_ne (off := 10) (tgt := 13) (by decide +kernel) (by decide +kernel) (fun hc => ?_) (fun hc => ?_)
  · replace h := h.1 hc
    refine tq_s_iload_n (kk := 0) (by decide +kernel) rfl ?_
    refine tq_k_bi (n := 115) (v := (115 : Int32)) (by decide +kernel) kb_115 ?_
    refine tq_icmp_ne (off := 11) (tgt := 27) (by decide +kernel) (by decide +kernel) (fun hc => ?_) (fun hc => ?_)
    · replace h := h.1 hc
      refine tq_s_iload_n (kk := 0) (by decide +kernel) rfl ?_
      refine tq_k_bi (n := 111) (v := (111 : Int32)) (by decide +kernel) kb_111 ?_
      refine tq_icmp_ne (off := 11) (tgt := 41) (by decide +kernel) (by decide +kernel) (fun hc => ?_) (fun hc => ?_)
      · replace h := h.1 hc
        refine tq_s_iload_n (kk := 0) (by decide +kernel) rfl ?_
        refine tq_k_bi (n := 99) (v := (99 : Int32)) (by decide +kernel) kb_99 ?_
        refine tq_icmp_ne (off := 17) (tgt := 61) (by decide +kernel) (by decide +kernel) (fun hc => ?_) (fun hc => ?_)
        · replace h := h.1 hc
          refine tq_k_ic (n := 0) (v := (0 : Int32)) (by decide +kernel) kc_0 ?_
          exact tq_ret_z (st := []) (ty := .boolean) (by decide +kernel) (by decide +kernel) rfl h
        · replace h := h.2 hc
          refine tq_k_ic (n := 2) (v := (2 : Int32)) (by decide +kernel) kc_2 ?_
          refine tq_s_iload_n (kk := 1) (by decide +kernel) rfl ?_
          refine tq_k_bi (n := 8) (v := (8 : Int32)) (by decide +kernel) kb_8 ?_
          refine tq_callSN (as := [.int (2 : Int32), .int a1, .int (8 : Int32)]) (st := []) (d1 := 0) (x1 := 0) (x2 := x) (by decide +kernel) ln_1_27 mf_X11_isFrom rfl (by decide) np_X11_isFrom rfl (Nat.le_of_ble_eq_true rfl) (by decide) (Nat.zero_add _).symm (tq_M_mono (am_X11_isFrom h) ?_)
          refine tq_wi_e (fun r2 z1 h => ?_)
          refine tq_if_eq (off := 7) (tgt := 61) (by decide +kernel) (by decide +kernel) (fun hc => ?_) (fun hc => ?_)
          · replace h := h.1 hc
            refine tq_k_ic (n := 0) (v := (0 : Int32)) (by decide +kernel) kc_0 ?_
            exact tq_ret_z (st := []) (ty := .boolean) (by decide +kernel) (by decide +kernel) rfl h
          · replace h := h.2 hc
            refine tq_k_ic (n := 1) (v := (1 : Int32)) (by decide +kernel) kc_1 ?_
            refine tq_s_goto (off := 4) (tgt := 62) (by decide +kernel) (by decide +kernel) ?_
            exact tq_ret_z (st := []) (ty := .boolean) (by decide +kernel) (by decide +kernel) rfl h
      · replace h := h.2 hc
        refine tq_k_ic (n := 3) (v := (3 : Int32)) (by decide +kernel) kc_3 ?_
        refine tq_s_iload_n (kk := 1) (by decide +kernel) rfl ?_
        refine tq_k_bi (n := 8) (v := (8 : Int32)) (by decide +kernel) kb_8 ?_
        refine tq_callSN (as := [.int (3 : Int32), .int a1, .int (8 : Int32)]) (st := []) (d1 := 0) (x1 := 0) (x2 := x) (by decide +kernel) ln_1_27 mf_X11_isFrom rfl (by decide) np_X11_isFrom rfl (Nat.le_of_ble_eq_true rfl) (by decide) (Nat.zero_add _).symm (tq_M_mono (am_X11_isFrom h) ?_)
        refine tq_wi_e (fun r4 z3 h => ?_)
        exact tq_ret_z (st := []) (ty := .boolean) (by decide +kernel) (tq_nz_f h.1).1 rfl h.2
    · replace h := h.2 hc
      refine tq_k_ic (n := 1) (v := (1 : Int32)) (by decide +kernel) kc_1 ?_
      refine tq_s_iload_n (kk := 1) (by decide +kernel) rfl ?_
      refine tq_k_bi (n := 8) (v := (8 : Int32)) (by decide +kernel) kb_8 ?_
      refine tq_callSN (as := [.int (1 : Int32), .int a1, .int (8 : Int32)]) (st := []) (d1 := 0) (x1 := 0) (x2 := x) (by decide +kernel) ln_1_27 mf_X11_isFrom rfl (by decide) np_X11_isFrom rfl (Nat.le_of_ble_eq_true rfl) (by decide) (Nat.zero_add _).symm (tq_M_mono (am_X11_isFrom h) ?_)
      refine tq_wi_e (fun r6 z5 h => ?_)
      exact tq_ret_z (st := []) (ty := .boolean) (by decide +kernel) (tq_nz_f h.1).1 rfl h.2
  · replace h := h.2 hc
    refine tq_k_ic (n := 1) (v := (1 : Int32)) (by decide +kernel) kc_1 ?_
    refine tq_s_iload_n (kk := 1) (by decide +kernel) rfl ?_
    refine tq_k_ic (n := 4) (v := (4 : Int32)) (by decide +kernel) kc_4 ?_
    refine tq_callSN (as := [.int (1 : Int32), .int a1, .int (4 : Int32)]) (st := []) (d1 := 0) (x1 := 0) (x2 := x) (by decide +kernel) ln_1_27 mf_X11_isFrom rfl (by decide) np_X11_isFrom rfl (Nat.le_of_ble_eq_true rfl) (by decide) (Nat.zero_add _).symm (tq_M_mono (am_X11_isFrom h) ?_)
    refine tq_wi_e (fun r8 z7 h => ?_)
    exact tq_ret_z (st := []) (ty := .boolean) (by decide +kernel) (tq_nz_f h.1).1 rfl h.2
def wc_X1_isInForm_22 (Q : tq_O → tq_S → Prop) (a1 : Int32) (a2 : Int32) (s0 : Int32) (z : tq_S) : Prop := wm_X11_isFrom s0 a2 ((((2 : Int32) * a1) - (1 : Int32)) - s0) z (tq_wi fun r102 z101 => tq_nz r102 ∧ Q (.inl (some (.int r102))) z101)
theorem ac_X1_isInForm_22 {K : Nat × (Nat → Int32)} {x : Nat} {Q : tq_O → tq_S → Prop} {a1 : Int32} {a2 : Int32} {s0 : Int32} {z : tq_S} (h : wc_X1_isInForm_22 Q a1 a2 s0 z) : tq_T K 1 x mm_X1_isInForm 22 [.null, .int a1, .int a2, .null, .null] [.int s0] z Q := by
  unfold wc_X1_isInForm_22 at h
  refine tq_s_istore (i := 4) (L9 := [.null, .int a1, .int a2, .null, .int s0]) (by decide +kernel) (by decide) rfl ?_
  refine tq_s_iload (i := 4) (by decide +kernel) rfl ?_
  refine tq_s_iload_n (kk := 2) (by decide +kernel) rfl ?_
  refine tq_k_ic (n := 2) (v := (2 : Int32)) (by decide +kernel) kc_2 ?_
  refine tq_s_iload_n (kk := 1) (by decide +kernel) rfl ?_
  refine tq_s_imul (by decide +kernel) ?_
  refine tq_k_ic (n := 1) (v := (1 : Int32)) (by decide +kernel) kc_1 ?_
  refine tq_s_isub (by decide +kernel) ?_
  refine tq_s_iload (i := 4) (by decide +kernel) rfl ?_
  refine tq_s_isub (by decide +kernel) ?_
  refine tq_callSN (as := [.int s0, .int a2, .int ((((2 : Int32) * a1) - (1 : Int32)) - s0)]) (st := []) (d1 := 0) (x1 := 0) (x2 := x) (by decide +kernel) ln_1_27 mf_X11_isFrom rfl (by decide) np_X11_isFrom rfl (Nat.le_of_ble_eq_true rfl) (by decide) (Nat.zero_add _).symm (tq_M_mono (am_X11_isFrom h) ?_)
  refine tq_wi_e (fun r102 z101 h => ?_)
  exact tq_ret_z (st := []) (ty := .boolean) (by decide +kernel) (tq_nz_f h.1).1 rfl h.2
def wc_X1_isInForm_98 (Q : tq_O → tq_S → Prop) (a1 : Int32) (a2 : Int32) (a3 : Int32) (z : tq_S) : Prop := ((¬ a2 = (a1 - (1 : Int32)) → Q (.inl (some (.int (1 : Int32)))) z) ∧ (a2 = (a1 - (1 : Int32)) → ((a3 = (a1 - (1 : Int32)) → Q (.inl (some (.int (0 : Int32)))) z) ∧ (¬ a3 = (a1 - (1 : Int32)) → Q (.inl (some (.int (1 : Int32)))) z))))
theorem ac_X1_isInForm_98 {K : Nat × (Nat → Int32)} {x : Nat} {Q : tq_O → tq_S → Prop} {a1 : Int32} {a2 : Int32} {a3 : Int32} {z : tq_S} (h : wc_X1_isInForm_98 Q a1 a2 a3 z) : tq_T K 1 x mm_X1_isInForm 98 [.null, .int a1, .int a2, .int a3, .null] [] z Q := by
  unfold wc_X1_isInForm_98 at h
  refine tq_s_iload_n (kk := 2) (by decide +kernel) rfl ?_
  refine tq_s_iload_n (kk := 1) (by decide +kernel) rfl ?_
  refine tq_k_ic (n := 1) (v := (1 : Int32)) (by decide +kernel) kc_1 ?_
  refine tq_s_isub (by decide +kernel) ?_
  refine tq_icmp_ne (off := 10) (tgt := 112) (by decide +kernel) (by decide +kernel) (fun hc => ?_) (fun hc => ?_)
  · replace h := h.1 hc
    refine tq_k_ic (n := 1) (v := (1 : Int32)) (by decide +kernel) kc_1 ?_
    refine tq_s_goto (off := 4) (tgt := 117) (by decide +kernel) (by decide +kernel) ?_
    exact tq_ret_z (st := []) (ty := .boolean) (by decide +kernel) (by decide +kernel) rfl h
  · replace h := h.2 hc
    refine tq_s_iload_n (kk := 3) (by decide +kernel) rfl ?_
    refine tq_s_iload_n (kk := 1) (by decide +kernel) rfl ?_
    refine tq_k_ic (n := 1) (v := (1 : Int32)) (by decide +kernel) kc_1 ?_
    refine tq_s_isub (by decide +kernel) ?_
    refine tq_icmp_eq (off := 7) (tgt := 116) (by decide +kernel) (by decide +kernel) (fun hc => ?_) (fun hc => ?_)
    · replace h := h.1 hc
      refine tq_k_ic (n := 0) (v := (0 : Int32)) (by decide +kernel) kc_0 ?_
      exact tq_ret_z (st := []) (ty := .boolean) (by decide +kernel) (by decide +kernel) rfl h
    · replace h := h.2 hc
      refine tq_k_ic (n := 1) (v := (1 : Int32)) (by decide +kernel) kc_1 ?_
      refine tq_s_goto (off := 4) (tgt := 117) (by decide +kernel) (by decide +kernel) ?_
      exact tq_ret_z (st := []) (ty := .boolean) (by decide +kernel) (by decide +kernel) rfl h
def wm_X1_isInForm (a0 : Int32) (a1 : Int32) (a2 : Int32) (a3 : Int32) (z : tq_S) (Q : tq_O → tq_S → Prop) : Prop := ((¬ a0 = (97 : Int32) → ((¬ a0 = (115 : Int32) → ((¬ a0 = (111 : Int32) → ((¬ a2 = 0 → wc_X1_isInForm_98 Q a1 a2 a3 z) ∧ (a2 = 0 → ((a3 = 0 → Q (.inl (some (.int (0 : Int32)))) z) ∧ (¬ a3 = 0 → wc_X1_isInForm_98 Q a1 a2 a3 z))))) ∧ (a0 = (111 : Int32) → ((a2 = 0 → Q (.inl (some (.int (1 : Int32)))) z) ∧ (¬ a2 = 0 → ((a3 = 0 → Q (.inl (some (.int (1 : Int32)))) z) ∧ (¬ a3 = 0 → ((a2 = (a1 - (1 : Int32)) → Q (.inl (some (.int (1 : Int32)))) z) ∧ (¬ a2 = (a1 - (1 : Int32)) → ((¬ a3 = (a1 - (1 : Int32)) → Q (.inl (some (.int (0 : Int32)))) z) ∧ (a3 = (a1 - (1 : Int32)) → Q (.inl (some (.int (1 : Int32)))) z))))))))))) ∧ (a0 = (115 : Int32) → ((a3 < a2 → Q (.inl (some (.int (0 : Int32)))) z) ∧ (¬ a3 < a2 → Q (.inl (some (.int (1 : Int32)))) z))))) ∧ (a0 = (97 : Int32) → ((a1 ≤ a3 → wc_X1_isInForm_22 Q a1 a2 (a3 - a1) z) ∧ (¬ a1 ≤ a3 → wc_X1_isInForm_22 Q a1 a2 ((a1 - (1 : Int32)) - a3) z))))
theorem am_X1_isInForm {K : Nat × (Nat → Int32)} {x : Nat} {z : tq_S} {Q : tq_O → tq_S → Prop} {a0 : Int32} {a1 : Int32} {a2 : Int32} {a3 : Int32} (h : wm_X1_isInForm a0 a1 a2 a3 z Q) : tq_M K 1 x mm_X1_isInForm [.int a0, .int a1, .int a2, .int a3] z Q := by
  unfold wm_X1_isInForm at h
  refine tq_enter (L := [.int a0, .int a1, .int a2, .int a3, .null]) mf_X1_isInForm.1 rfl rfl (Nat.le_of_ble_eq_true rfl) ?_
  refine tq_s_iload_n (kk := 0) (by decide +kernel) rfl ?_
  refine tq_k_bi (n := 97) (v := (97 : Int32)) (by decide +kernel) kb_97 ?_
  refine tq_icmp_ne (off := 36) (tgt := 39) (by decide +kernel) (by decide +kernel) (fun hc => ?_) (fun hc => ?_)
  · replace h := h.1 hc
    refine tq_s_iload_n (kk := 0) (by decide +kernel) rfl ?_
    refine tq_k_bi (n := 115) (v := (115 : Int32)) (by decide +kernel) kb_115 ?_
    refine tq_icmp_ne (off := 14) (tgt := 56) (by decide +kernel) (by decide +kernel) (fun hc => ?_) (fun hc => ?_)
    · replace h := h.1 hc
      refine tq_s_iload_n (kk := 0) (by decide +kernel) rfl ?_
      refine tq_k_bi (n := 111) (v := (111 : Int32)) (by decide +kernel) kb_111 ?_
      refine tq_icmp_ne (off := 31) (tgt := 90) (by decide +kernel) (by decide +kernel) (fun hc => ?_) (fun hc => ?_)
      · replace h := h.1 hc
        refine tq_s_iload_n (kk := 2) (by decide +kernel) rfl ?_
        refine tq_if_ne (off := 7) (tgt := 98) (by decide +kernel) (by decide +kernel) (fun hc => ?_) (fun hc => ?_)
        · replace h := h.1 hc
          exact tq_to (tq_ld1 (tq_lk1 (tq_lk1 (tq_lk1 (tq_lk1 tq_l0))))) (ac_X1_isInForm_98 h)
        · replace h := h.2 hc
          refine tq_s_iload_n (kk := 3) (by decide +kernel) rfl ?_
          refine tq_if_eq (off := 21) (tgt := 116) (by decide +kernel) (by decide +kernel) (fun hc => ?_) (fun hc => ?_)
          · replace h := h.1 hc
            refine tq_k_ic (n := 0) (v := (0 : Int32)) (by decide +kernel) kc_0 ?_
            exact tq_ret_z (st := []) (ty := .boolean) (by decide +kernel) (by decide +kernel) rfl h
          · replace h := h.2 hc
            exact tq_to (tq_ld1 (tq_lk1 (tq_lk1 (tq_lk1 (tq_lk1 tq_l0))))) (ac_X1_isInForm_98 h)
      · replace h := h.2 hc
        refine tq_s_iload_n (kk := 2) (by decide +kernel) rfl ?_
        refine tq_if_eq (off := 21) (tgt := 84) (by decide +kernel) (by decide +kernel) (fun hc => ?_) (fun hc => ?_)
        · replace h := h.1 hc
          refine tq_k_ic (n := 1) (v := (1 : Int32)) (by decide +kernel) kc_1 ?_
          refine tq_s_goto (off := 4) (tgt := 89) (by decide +kernel) (by decide +kernel) ?_
          exact tq_ret_z (st := []) (ty := .boolean) (by decide +kernel) (by decide +kernel) rfl h
        · replace h := h.2 hc
          refine tq_s_iload_n (kk := 3) (by decide +kernel) rfl ?_
          refine tq_if_eq (off := 17) (tgt := 84) (by decide +kernel) (by decide +kernel) (fun hc => ?_) (fun hc => ?_)
          · replace h := h.1 hc
            refine tq_k_ic (n := 1) (v := (1 : Int32)) (by decide +kernel) kc_1 ?_
            refine tq_s_goto (off := 4) (tgt := 89) (by decide +kernel) (by decide +kernel) ?_
            exact tq_ret_z (st := []) (ty := .boolean) (by decide +kernel) (by decide +kernel) rfl h
          · replace h := h.2 hc
            refine tq_s_iload_n (kk := 2) (by decide +kernel) rfl ?_
            refine tq_s_iload_n (kk := 1) (by decide +kernel) rfl ?_
            refine tq_k_ic (n := 1) (v := (1 : Int32)) (by decide +kernel) kc_1 ?_
            refine tq_s_isub (by decide +kernel) ?_
            refine tq_icmp_eq (off := 10) (tgt := 84) (by decide +kernel) (by decide +kernel) (fun hc => ?_) (fun hc => ?_)
            · replace h := h.1 hc
              refine tq_k_ic (n := 1) (v := (1 : Int32)) (by decide +kernel) kc_1 ?_
              refine tq_s_goto (off := 4) (tgt := 89) (by decide +kernel) (by decide +kernel) ?_
              exact tq_ret_z (st := []) (ty := .boolean) (by decide +kernel) (by decide +kernel) rfl h
            · replace h := h.2 hc
              refine tq_s_iload_n (kk := 3) (by decide +kernel) rfl ?_
              refine tq_s_iload_n (kk := 1) (by decide +kernel) rfl ?_
              refine tq_k_ic (n := 1) (v := (1 : Int32)) (by decide +kernel) kc_1 ?_
              refine tq_s_isub (by decide +kernel) ?_
              refine tq_icmp_ne (off := 7) (tgt := 88) (by decide +kernel) (by decide +kernel) (fun hc => ?_) (fun hc => ?_)
              · replace h := h.1 hc
                refine tq_k_ic (n := 0) (v := (0 : Int32)) (by decide +kernel) kc_0 ?_
                exact tq_ret_z (st := []) (ty := .boolean) (by decide +kernel) (by decide +kernel) rfl h
              · replace h := h.2 hc
                refine tq_k_ic (n := 1) (v := (1 : Int32)) (by decide +kernel) kc_1 ?_
                refine tq_s_goto (off := 4) (tgt := 89) (by decide +kernel) (by decide +kernel) ?_
                exact tq_ret_z (st := []) (ty := .boolean) (by decide +kernel) (by decide +kernel) rfl h
    · replace h := h.2 hc
      refine tq_s_iload_n (kk := 2) (by decide +kernel) rfl ?_
      refine tq_s_iload_n (kk := 3) (by decide +kernel) rfl ?_
      refine tq_icmp_gt (off := 7) (tgt := 54) (by decide +kernel) (by decide +kernel) (fun hc => ?_) (fun hc => ?_)
      · replace h := h.1 hc
        refine tq_k_ic (n := 0) (v := (0 : Int32)) (by decide +kernel) kc_0 ?_
        exact tq_ret_z (st := []) (ty := .boolean) (by decide +kernel) (by decide +kernel) rfl h
      · replace h := h.2 hc
        refine tq_k_ic (n := 1) (v := (1 : Int32)) (by decide +kernel) kc_1 ?_
        refine tq_s_goto (off := 4) (tgt := 55) (by decide +kernel) (by decide +kernel) ?_
        exact tq_ret_z (st := []) (ty := .boolean) (by decide +kernel) (by decide +kernel) rfl h
  · replace h := h.2 hc
    refine tq_s_iload_n (kk := 3) (by decide +kernel) rfl ?_
    refine tq_s_iload_n (kk := 1) (by decide +kernel) rfl ?_
    refine tq_icmp_ge (off := 11) (tgt := 19) (by decide +kernel) (by decide +kernel) (fun hc => ?_) (fun hc => ?_)
    · replace h := h.1 hc
      refine tq_s_iload_n (kk := 3) (by decide +kernel) rfl ?_
      refine tq_s_iload_n (kk := 1) (by decide +kernel) rfl ?_
      refine tq_s_isub (by decide +kernel) ?_
      exact tq_to (tq_ld1 (tq_lk1 (tq_lk1 (tq_ld1 (tq_lk1 tq_l0))))) (ac_X1_isInForm_22 h)
    · replace h := h.2 hc
      refine tq_s_iload_n (kk := 1) (by decide +kernel) rfl ?_
      refine tq_k_ic (n := 1) (v := (1 : Int32)) (by decide +kernel) kc_1 ?_
      refine tq_s_isub (by decide +kernel) ?_
      refine tq_s_iload_n (kk := 3) (by decide +kernel) rfl ?_
      refine tq_s_isub (by decide +kernel) ?_
      refine tq_s_goto (off := 6) (tgt := 22) (by decide +kernel) (by decide +kernel) ?_
      exact tq_to (tq_ld1 (tq_lk1 (tq_lk1 (tq_ld1 (tq_lk1 tq_l0))))) (ac_X1_isInForm_22 h)
def wm_X1_bit (a0 : Int32) (a1 : Int32) (z : tq_S) (Q : tq_O → tq_S → Prop) : Prop := Q (.inl (some (.long ((1 : Int64) <<< ((Int32.toInt64 (((8 : Int32) * a1) + a0)) &&& 63))))) z
theorem am_X1_bit {K : Nat × (Nat → Int32)} {x : Nat} {z : tq_S} {Q : tq_O → tq_S → Prop} {a0 : Int32} {a1 : Int32} (h : wm_X1_bit a0 a1 z Q) : tq_M K 0 x mm_X1_bit [.int a0, .int a1] z Q := by
  unfold wm_X1_bit at h
  refine tq_enter (L := [.int a0, .int a1]) mf_X1_bit.1 rfl rfl (Nat.le_of_ble_eq_true rfl) ?_
  refine tq_k_lc (n := 1) (v := (1 : Int64)) (by decide +kernel) (by decide +kernel) ?_
  refine tq_k_bi (n := 8) (v := (8 : Int32)) (by decide +kernel) kb_8 ?_
  refine tq_s_iload_n (kk := 1) (by decide +kernel) rfl ?_
  refine tq_s_imul (by decide +kernel) ?_
  refine tq_s_iload_n (kk := 0) (by decide +kernel) rfl ?_
  refine tq_s_iadd (by decide +kernel) ?_
  refine tq_s_lshl (by decide +kernel) ?_
  exact tq_ret_l (st := []) (by decide +kernel) rfl h
def wc_X1_formCells_70 (B19 : Int64 → Int32 → tq_S → Prop) (B35 : Int64 → Int32 → tq_S → Prop) (Q : tq_O → tq_S → Prop) (a0 : Int32) (a1 : Int32) (a2 : Int32) (a3 : Int64) (a5 : Int32) (a6 : Int32) (z : tq_S) : Prop := ∀ v101 : Int32, v101 = a6 + (1 : Int32) → B35 a3 v101 z
theorem ac_X1_formCells_70 {K : Nat × (Nat → Int32)} {x : Nat} {Q : tq_O → tq_S → Prop} {B19 : Int64 → Int32 → tq_S → Prop} {B35 : Int64 → Int32 → tq_S → Prop} {a0 : Int32} {a1 : Int32} {a2 : Int32} {a3 : Int64} {a5 : Int32} {a6 : Int32} {z : tq_S} (hB19 : ∀ (b3 : Int64) (b5 : Int32) (z : tq_S), B19 b3 b5 z → tq_T K 2 x mm_X1_formCells 19 [.int a0, .int a1, .int a2, .long b3, .null, .int b5, .null] [] z Q) (hB35 : ∀ (b3 : Int64) (b6 : Int32) (z : tq_S), B35 b3 b6 z → tq_T K 2 x mm_X1_formCells 35 [.int a0, .int a1, .int a2, .long b3, .null, .int a5, .int b6] [] z Q) (h : wc_X1_formCells_70 B19 B35 Q a0 a1 a2 a3 a5 a6 z) : tq_T K 2 x mm_X1_formCells 70 [.int a0, .int a1, .int a2, .long a3, .null, .int a5, .int a6] [] z Q := by
  unfold wc_X1_formCells_70 at h
  refine tq_g_iinc (i := 6) (fun v101 => [.int a0, .int a1, .int a2, .long a3, .null, .int a5, .int v101]) (by decide +kernel) rfl (1 : Int32) kc_1 (fun _ => rfl) (fun v101 ev101 => ?_)
  replace h := h v101 ev101
  refine tq_s_goto (off := -38) (tgt := 35) (by decide +kernel) (by decide +kernel) ?_
  exact hB35 _ _ _ h
def wc_X1_formCells_76 (B19 : Int64 → Int32 → tq_S → Prop) (Q : tq_O → tq_S → Prop) (a0 : Int32) (a1 : Int32) (a2 : Int32) (a3 : Int64) (a5 : Int32) (z : tq_S) : Prop := ∀ v101 : Int32, v101 = a5 + (1 : Int32) → B19 a3 v101 z
theorem ac_X1_formCells_76 {K : Nat × (Nat → Int32)} {x : Nat} {Q : tq_O → tq_S → Prop} {B19 : Int64 → Int32 → tq_S → Prop} {a0 : Int32} {a1 : Int32} {a2 : Int32} {a3 : Int64} {a5 : Int32} {z : tq_S} (hB19 : ∀ (b3 : Int64) (b5 : Int32) (z : tq_S), B19 b3 b5 z → tq_T K 2 x mm_X1_formCells 19 [.int a0, .int a1, .int a2, .long b3, .null, .int b5, .null] [] z Q) (h : wc_X1_formCells_76 B19 Q a0 a1 a2 a3 a5 z) : tq_T K 2 x mm_X1_formCells 76 [.int a0, .int a1, .int a2, .long a3, .null, .int a5, .null] [] z Q := by
  unfold wc_X1_formCells_76 at h
  refine tq_g_iinc (i := 5) (fun v101 => [.int a0, .int a1, .int a2, .long a3, .null, .int v101, .null]) (by decide +kernel) rfl (1 : Int32) kc_1 (fun _ => rfl) (fun v101 ev101 => ?_)
  replace h := h v101 ev101
  refine tq_s_goto (off := -60) (tgt := 19) (by decide +kernel) (by decide +kernel) ?_
  exact hB19 _ _ _ h
def wb_X1_formCells_35 (B19 : Int64 → Int32 → tq_S → Prop) (B35 : Int64 → Int32 → tq_S → Prop) (Q : tq_O → tq_S → Prop) (a0 : Int32) (a1 : Int32) (a2 : Int32) (a3 : Int64) (a5 : Int32) (a6 : Int32) (z : tq_S) : Prop := ((a2 ≤ a6 → wc_X1_formCells_76 B19 Q a0 a1 a2 a3 a5 z) ∧ (¬ a2 ≤ a6 → (((8 : Int32) ≤ a6 → wc_X1_formCells_76 B19 Q a0 a1 a2 a3 a5 z) ∧ (¬ (8 : Int32) ≤ a6 → wm_X1_isInForm a0 a1 a6 a5 z (tq_wi fun r102 z101 => ((r102 = 0 → wc_X1_formCells_70 B19 B35 Q a0 a1 a2 a3 a5 a6 z101) ∧ (¬ r102 = 0 → wm_X1_bit a6 a5 z101 (tq_wl fun r104 z103 => ∀ v105 : Int64, v105 = (a3 ||| r104) → wc_X1_formCells_70 B19 B35 Q a0 a1 a2 v105 a5 a6 z103))))))))
def wc_X1_formCells_35 (B19 : Int64 → Int32 → tq_S → Prop) (Q : tq_O → tq_S → Prop) (a0 : Int32) (a1 : Int32) (a2 : Int32) (a3 : Int64) (a5 : Int32) (a6 : Int32) (z : tq_S) : Prop := tq_lp (σ := Int64 × Int32 × tq_S) (fun B s => wb_X1_formCells_35 B19 (fun b3 b6 z => B (b3, b6, z)) Q a0 a1 a2 s.1 a5 s.2.1 s.2.2) (a3, a6, z)
theorem ab_X1_formCells_35 {K : Nat × (Nat → Int32)} {x : Nat} {Q : tq_O → tq_S → Prop} {B19 : Int64 → Int32 → tq_S → Prop} {B35 : Int64 → Int32 → tq_S → Prop} {a0 : Int32} {a1 : Int32} {a2 : Int32} {a3 : Int64} {a5 : Int32} {a6 : Int32} {z : tq_S} (hB19 : ∀ (b3 : Int64) (b5 : Int32) (z : tq_S), B19 b3 b5 z → tq_T K 2 x mm_X1_formCells 19 [.int a0, .int a1, .int a2, .long b3, .null, .int b5, .null] [] z Q) (hB35 : ∀ (b3 : Int64) (b6 : Int32) (z : tq_S), B35 b3 b6 z → tq_T K 2 x mm_X1_formCells 35 [.int a0, .int a1, .int a2, .long b3, .null, .int a5, .int b6] [] z Q) (h : wb_X1_formCells_35 B19 B35 Q a0 a1 a2 a3 a5 a6 z) : tq_T K 2 x mm_X1_formCells 35 [.int a0, .int a1, .int a2, .long a3, .null, .int a5, .int a6] [] z Q := by
  unfold wb_X1_formCells_35 at h
  refine tq_s_iload (i := 6) (by decide +kernel) rfl ?_
  refine tq_s_iload_n (kk := 2) (by decide +kernel) rfl ?_
  refine tq_icmp_ge (off := 38) (tgt := 76) (by decide +kernel) (by decide +kernel) (fun hc => ?_) (fun hc => ?_)
  · replace h := h.1 hc
    exact tq_to (tq_lk1 (tq_lk1 (tq_lk1 (tq_lk1 (tq_lk1 (tq_lk1 (tq_ld1 tq_l0))))))) (ac_X1_formCells_76 hB19 h)
  · replace h := h.2 hc
    refine tq_s_iload (i := 6) (by decide +kernel) rfl ?_
    refine tq_k_bi (n := 8) (v := (8 : Int32)) (by decide +kernel) kb_8 ?_
    refine tq_icmp_ge (off := 31) (tgt := 76) (by decide +kernel) (by decide +kernel) (fun hc => ?_) (fun hc => ?_)
    · replace h := h.1 hc
      exact tq_to (tq_lk1 (tq_lk1 (tq_lk1 (tq_lk1 (tq_lk1 (tq_lk1 (tq_ld1 tq_l0))))))) (ac_X1_formCells_76 hB19 h)
    · replace h := h.2 hc
      refine tq_s_iload_n (kk := 0) (by decide +kernel) rfl ?_
      refine tq_s_iload_n (kk := 1) (by decide +kernel) rfl ?_
      refine tq_s_iload (i := 6) (by decide +kernel) rfl ?_
      refine tq_s_iload (i := 5) (by decide +kernel) rfl ?_
      refine tq_callS (as := [.int a0, .int a1, .int a6, .int a5]) (st := []) (d1 := 1) (x1 := 0) (x2 := x) (by decide +kernel) ln_1_33 mf_X1_isInForm rfl (by decide) np_X1_isInForm rfl (Nat.le_of_ble_eq_true rfl) (by decide) (Nat.zero_add _).symm (tq_M_mono (am_X1_isInForm h) ?_)
      refine tq_wi_e (fun r102 z101 h => ?_)
      refine tq_if_eq (off := 13) (tgt := 70) (by decide +kernel) (by decide +kernel) (fun hc => ?_) (fun hc => ?_)
      · replace h := h.1 hc
        exact ac_X1_formCells_70 hB19 hB35 h
      · replace h := h.2 hc
        refine tq_s_lload_n (kk := 3) (by decide +kernel) rfl ?_
        refine tq_s_iload (i := 6) (by decide +kernel) rfl ?_
        refine tq_s_iload (i := 5) (by decide +kernel) rfl ?_
        refine tq_callS (as := [.int a6, .int a5]) (st := [.long a3]) (d1 := 0) (x1 := 0) (x2 := x) (by decide +kernel) ln_1_37 mf_X1_bit rfl (by decide) np_X1_bit rfl (Nat.le_of_ble_eq_true rfl) (by decide) (Nat.zero_add _).symm (tq_M_mono (am_X1_bit h) ?_)
        refine tq_wl_e (fun r104 z103 h => ?_)
        refine tq_s_lor (by decide +kernel) ?_
        refine tq_g_lstore_n (kk := 3) (fun v105 => [.int a0, .int a1, .int a2, .long v105, .null, .int a5, .int a6]) (by decide +kernel) (by decide) (fun _ => rfl) (fun v105 ev105 => ?_)
        replace h := h v105 ev105
        exact ac_X1_formCells_70 hB19 hB35 h
theorem ac_X1_formCells_35 {K : Nat × (Nat → Int32)} {x : Nat} {Q : tq_O → tq_S → Prop} {B19 : Int64 → Int32 → tq_S → Prop} {a0 : Int32} {a1 : Int32} {a2 : Int32} {a3 : Int64} {a5 : Int32} {a6 : Int32} {z : tq_S} (hB19 : ∀ (b3 : Int64) (b5 : Int32) (z : tq_S), B19 b3 b5 z → tq_T K 2 x mm_X1_formCells 19 [.int a0, .int a1, .int a2, .long b3, .null, .int b5, .null] [] z Q) (h : wc_X1_formCells_35 B19 Q a0 a1 a2 a3 a5 a6 z) : tq_T K 2 x mm_X1_formCells 35 [.int a0, .int a1, .int a2, .long a3, .null, .int a5, .int a6] [] z Q :=
  tq_lp_T (σ := Int64 × Int32 × tq_S) (s := (a3, a6, z)) (G := fun s => tq_T K 2 x mm_X1_formCells 35 [.int a0, .int a1, .int a2, .long s.1, .null, .int a5, .int s.2.1] [] s.2.2 Q) (fun B hB s h => ab_X1_formCells_35 hB19 (fun b3 b6 z h => hB (b3, b6, z) h) h) h
def wb_X1_formCells_19 (B19 : Int64 → Int32 → tq_S → Prop) (Q : tq_O → tq_S → Prop) (a0 : Int32) (a1 : Int32) (a2 : Int32) (a3 : Int64) (a5 : Int32) (z : tq_S) : Prop := ((a2 ≤ a5 → Q (.inl (some (.long a3))) z) ∧ (¬ a2 ≤ a5 → (((8 : Int32) ≤ a5 → Q (.inl (some (.long a3))) z) ∧ (¬ (8 : Int32) ≤ a5 → wc_X1_formCells_35 B19 Q a0 a1 a2 a3 a5 (0 : Int32) z))))
def wc_X1_formCells_19 (Q : tq_O → tq_S → Prop) (a0 : Int32) (a1 : Int32) (a2 : Int32) (a3 : Int64) (a5 : Int32) (z : tq_S) : Prop := tq_lp (σ := Int64 × Int32 × tq_S) (fun B s => wb_X1_formCells_19 (fun b3 b5 z => B (b3, b5, z)) Q a0 a1 a2 s.1 s.2.1 s.2.2) (a3, a5, z)
theorem ab_X1_formCells_19 {K : Nat × (Nat → Int32)} {x : Nat} {Q : tq_O → tq_S → Prop} {B19 : Int64 → Int32 → tq_S → Prop} {a0 : Int32} {a1 : Int32} {a2 : Int32} {a3 : Int64} {a5 : Int32} {z : tq_S} (hB19 : ∀ (b3 : Int64) (b5 : Int32) (z : tq_S), B19 b3 b5 z → tq_T K 2 x mm_X1_formCells 19 [.int a0, .int a1, .int a2, .long b3, .null, .int b5, .null] [] z Q) (h : wb_X1_formCells_19 B19 Q a0 a1 a2 a3 a5 z) : tq_T K 2 x mm_X1_formCells 19 [.int a0, .int a1, .int a2, .long a3, .null, .int a5, .null] [] z Q := by
  unfold wb_X1_formCells_19 at h
  refine tq_s_iload (i := 5) (by decide +kernel) rfl ?_
  refine tq_s_iload_n (kk := 2) (by decide +kernel) rfl ?_
  refine tq_icmp_ge (off := 60) (tgt := 82) (by decide +kernel) (by decide +kernel) (fun hc => ?_) (fun hc => ?_)
  · replace h := h.1 hc
    refine tq_s_lload_n (kk := 3) (by decide +kernel) rfl ?_
    exact tq_ret_l (st := []) (by decide +kernel) rfl h
  · replace h := h.2 hc
    refine tq_s_iload (i := 5) (by decide +kernel) rfl ?_
    refine tq_k_bi (n := 8) (v := (8 : Int32)) (by decide +kernel) kb_8 ?_
    refine tq_icmp_ge (off := 53) (tgt := 82) (by decide +kernel) (by decide +kernel) (fun hc => ?_) (fun hc => ?_)
    · replace h := h.1 hc
      refine tq_s_lload_n (kk := 3) (by decide +kernel) rfl ?_
      exact tq_ret_l (st := []) (by decide +kernel) rfl h
    · replace h := h.2 hc
      refine tq_k_ic (n := 0) (v := (0 : Int32)) (by decide +kernel) kc_0 ?_
      refine tq_s_istore (i := 6) (L9 := [.int a0, .int a1, .int a2, .long a3, .null, .int a5, .int (0 : Int32)]) (by decide +kernel) (by decide) rfl ?_
      exact ac_X1_formCells_35 hB19 h
theorem ac_X1_formCells_19 {K : Nat × (Nat → Int32)} {x : Nat} {Q : tq_O → tq_S → Prop} {a0 : Int32} {a1 : Int32} {a2 : Int32} {a3 : Int64} {a5 : Int32} {z : tq_S} (h : wc_X1_formCells_19 Q a0 a1 a2 a3 a5 z) : tq_T K 2 x mm_X1_formCells 19 [.int a0, .int a1, .int a2, .long a3, .null, .int a5, .null] [] z Q :=
  tq_lp_T (σ := Int64 × Int32 × tq_S) (s := (a3, a5, z)) (G := fun s => tq_T K 2 x mm_X1_formCells 19 [.int a0, .int a1, .int a2, .long s.1, .null, .int s.2.1, .null] [] s.2.2 Q) (fun B hB s h => ab_X1_formCells_19 (fun b3 b5 z h => hB (b3, b5, z) h) h) h
def wc_X1_formCells_13 (Q : tq_O → tq_S → Prop) (a0 : Int32) (a1 : Int32) (s0 : Int32) (z : tq_S) : Prop := wc_X1_formCells_19 Q a0 a1 s0 (0 : Int64) (0 : Int32) z
theorem ac_X1_formCells_13 {K : Nat × (Nat → Int32)} {x : Nat} {Q : tq_O → tq_S → Prop} {a0 : Int32} {a1 : Int32} {s0 : Int32} {z : tq_S} (h : wc_X1_formCells_13 Q a0 a1 s0 z) : tq_T K 2 x mm_X1_formCells 13 [.int a0, .int a1, .null, .null, .null, .null, .null] [.int s0] z Q := by
  unfold wc_X1_formCells_13 at h
  refine tq_s_istore_n (kk := 2) (L9 := [.int a0, .int a1, .int s0, .null, .null, .null, .null]) (by decide +kernel) (by decide) rfl ?_
  refine tq_k_lc (n := 0) (v := (0 : Int64)) (by decide +kernel) (by decide +kernel) ?_
  refine tq_s_lstore_n (kk := 3) (L9 := [.int a0, .int a1, .int s0, .long (0 : Int64), .null, .null, .null]) (by decide +kernel) (by decide) rfl ?_
  refine tq_k_ic (n := 0) (v := (0 : Int32)) (by decide +kernel) kc_0 ?_
  refine tq_s_istore (i := 5) (L9 := [.int a0, .int a1, .int s0, .long (0 : Int64), .null, .int (0 : Int32), .null]) (by decide +kernel) (by decide) rfl ?_
  exact ac_X1_formCells_19 h
def wm_X1_formCells (a0 : Int32) (a1 : Int32) (z : tq_S) (Q : tq_O → tq_S → Prop) : Prop := ((¬ a0 = (97 : Int32) → wc_X1_formCells_13 Q a0 a1 a1 z) ∧ (a0 = (97 : Int32) → wc_X1_formCells_13 Q a0 a1 ((2 : Int32) * a1) z))
theorem am_X1_formCells {K : Nat × (Nat → Int32)} {x : Nat} {z : tq_S} {Q : tq_O → tq_S → Prop} {a0 : Int32} {a1 : Int32} (h : wm_X1_formCells a0 a1 z Q) : tq_M K 2 x mm_X1_formCells [.int a0, .int a1] z Q := by
  unfold wm_X1_formCells at h
  refine tq_enter (L := [.int a0, .int a1, .null, .null, .null, .null, .null]) mf_X1_formCells.1 rfl rfl (Nat.le_of_ble_eq_true rfl) ?_
  refine tq_s_iload_n (kk := 0) (by decide +kernel) rfl ?_
  refine tq_k_bi (n := 97) (v := (97 : Int32)) (by decide +kernel) kb_97 ?_
  refine tq_icmp_ne (off := 9) (tgt := 12) (by decide +kernel) (by decide +kernel) (fun hc => ?_) (fun hc => ?_)
  · replace h := h.1 hc
    refine tq_s_iload_n (kk := 1) (by decide +kernel) rfl ?_
    exact ac_X1_formCells_13 h
  · replace h := h.2 hc
    refine tq_k_ic (n := 2) (v := (2 : Int32)) (by decide +kernel) kc_2 ?_
    refine tq_s_iload_n (kk := 1) (by decide +kernel) rfl ?_
    refine tq_s_imul (by decide +kernel) ?_
    refine tq_s_goto (off := 4) (tgt := 13) (by decide +kernel) (by decide +kernel) ?_
    exact ac_X1_formCells_13 h
def wc_X11_form_31 (Q : tq_O → tq_S → Prop) (a1 : Int32) (a2 : Int32) (s0 : Int32) (z : tq_S) : Prop := wm_X1_formCells a1 a2 z (tq_wl fun r102 z101 => wm_X1_tell s0 s0 r102 z101 (tq_wv fun z103 => wm_X2_forget z103 (tq_wv fun z104 => wm_X1_size z104 (tq_wi fun r106 z105 => Q (.inl (some (.int r106))) z105))))
theorem ac_X11_form_31 {K : Nat × (Nat → Int32)} {Q : tq_O → tq_S → Prop} {a1 : Int32} {a2 : Int32} {s0 : Int32} {z : tq_S} (h : wc_X11_form_31 Q a1 a2 s0 z) : tq_T K 3 1 mm_X11_form 31 [.ref 0, .int a1, .int a2, .null] [.int s0] z Q := by
  unfold wc_X11_form_31 at h
  refine tq_s_istore_n (kk := 3) (L9 := [.ref 0, .int a1, .int a2, .int s0]) (by decide +kernel) (by decide) rfl ?_
  refine tq_s_aload_n (kk := 0) (by decide +kernel) rfl ?_
  refine fg_11_10_0 rfl (by decide +kernel) ?_
  refine tq_s_iload_n (kk := 3) (by decide +kernel) rfl ?_
  refine tq_s_iload_n (kk := 3) (by decide +kernel) rfl ?_
  refine tq_s_iload_n (kk := 1) (by decide +kernel) rfl ?_
  refine tq_s_iload_n (kk := 2) (by decide +kernel) rfl ?_
  refine tq_callSN (as := [.int a1, .int a2]) (st := [.int s0, .int s0, .ref 1]) (d1 := 2) (x1 := 0) (x2 := 1) (by decide +kernel) ln_11_133 mf_X1_formCells rfl (by decide) np_X1_formCells rfl (Nat.le_of_ble_eq_true rfl) (by decide) (Nat.zero_add _).symm (tq_M_mono (am_X1_formCells h) ?_)
  refine tq_wl_e (fun r102 z101 h => ?_)
  refine tq_callVN (as := [.int s0, .int s0, .long r102]) (st := []) (d1 := 0) (x1 := 0) (x2 := 1) (by decide +kernel) ln_11_116 mf_X1_tell rfl sh_1 rfl (by decide) np_X1_tell rfl (Nat.le_of_ble_eq_true rfl) (by decide) (Nat.zero_add _).symm (tq_M_mono (am_X1_tell h) ?_)
  refine tq_wv_e (fun z103 h => ?_)
  refine tq_s_aload_n (kk := 0) (by decide +kernel) rfl ?_
  refine fg_11_28_0 rfl (by decide +kernel) ?_
  refine tq_callVN (as := []) (st := []) (d1 := 0) (x1 := 0) (x2 := 1) (by decide +kernel) ln_11_120 mf_X2_forget rfl sh_8 rfl (by decide) np_X2_forget rfl (Nat.le_of_ble_eq_true rfl) (by decide) (Nat.zero_add _).symm (tq_M_mono (am_X2_forget h) ?_)
  refine tq_wv_e (fun z104 h => ?_)
  refine tq_s_aload_n (kk := 0) (by decide +kernel) rfl ?_
  refine fg_11_10_0 rfl (by decide +kernel) ?_
  refine tq_callVN (as := []) (st := []) (d1 := 1) (x1 := 0) (x2 := 1) (by decide +kernel) ln_11_123 mf_X1_size rfl sh_1 rfl (by decide) np_X1_size rfl (Nat.le_of_ble_eq_true rfl) (by decide) (Nat.zero_add _).symm (tq_M_mono (am_X1_size h) ?_)
  refine tq_wi_e (fun r106 z105 h => ?_)
  exact tq_ret_i (st := []) (by decide +kernel) rfl h
def wm_X11_form (a1 : Int32) (a2 : Int32) (z : tq_S) (Q : tq_O → tq_S → Prop) : Prop := wm_X1_isForm a1 a2 z (tq_wi fun r2 z1 => ((¬ r2 = 0 → ((¬ a1 = (97 : Int32) → wc_X11_form_31 Q a1 a2 a2 z1) ∧ (a1 = (97 : Int32) → wc_X11_form_31 Q a1 a2 ((2 : Int32) * a2) z1))) ∧ (r2 = 0 → Q (.inr 1) z1)))
theorem am_X11_form {K : Nat × (Nat → Int32)} {z : tq_S} {Q : tq_O → tq_S → Prop} {a1 : Int32} {a2 : Int32} (h : wm_X11_form a1 a2 z Q) : tq_M K 3 1 mm_X11_form [.ref 0, .int a1, .int a2] z Q := by
  unfold wm_X11_form at h
  refine tq_enter (L := [.ref 0, .int a1, .int a2, .null]) mf_X11_form.1 rfl rfl (Nat.le_of_ble_eq_true rfl) ?_
  refine tq_s_iload_n (kk := 1) (by decide +kernel) rfl ?_
  refine tq_s_iload_n (kk := 2) (by decide +kernel) rfl ?_
  refine tq_callSN (as := [.int a1, .int a2]) (st := []) (d1 := 1) (x1 := 0) (x2 := 1) (by decide +kernel) ln_11_127 mf_X1_isForm rfl (by decide) np_X1_isForm rfl (Nat.le_of_ble_eq_true rfl) (by decide) (Nat.zero_add _).symm (tq_M_mono (am_X1_isForm h) ?_)
  refine tq_wi_e (fun r2 z1 h => ?_)
  refine tq_if_ne (off := 13) (tgt := 18) (by decide +kernel) (by decide +kernel) (fun hc => ?_) (fun hc => ?_)
  · replace h := h.1 hc
    refine tq_s_iload_n (kk := 1) (by decide +kernel) rfl ?_
    refine tq_k_bi (n := 97) (v := (97 : Int32)) (by decide +kernel) kb_97 ?_
    refine tq_icmp_ne (off := 9) (tgt := 30) (by decide +kernel) (by decide +kernel) (fun hc => ?_) (fun hc => ?_)
    · replace h := h.1 hc
      refine tq_s_iload_n (kk := 2) (by decide +kernel) rfl ?_
      exact ac_X11_form_31 h
    · replace h := h.2 hc
      refine tq_k_ic (n := 2) (v := (2 : Int32)) (by decide +kernel) kc_2 ?_
      refine tq_s_iload_n (kk := 2) (by decide +kernel) rfl ?_
      refine tq_s_imul (by decide +kernel) ?_
      refine tq_s_goto (off := 4) (tgt := 31) (by decide +kernel) (by decide +kernel) ?_
      exact ac_X11_form_31 h
  · replace h := h.2 hc
    exact tq_throwS th_11_105_131 rfl (by decide +kernel) (by decide +kernel) (by decide +kernel) (by decide +kernel) (by decide +kernel) (Nat.le_of_ble_eq_true rfl) rfl (Nat.le_refl 1) h
def wm_X1_holds (a1 : Int32) (a2 : Int32) (z : tq_S) (Q : tq_O → tq_S → Prop) : Prop := ((a1 < 0 → Q (.inl (some (.int (0 : Int32)))) z) ∧ (¬ a1 < 0 → (((tq_fi z 64) ≤ a1 → Q (.inl (some (.int (0 : Int32)))) z) ∧ (¬ (tq_fi z 64) ≤ a1 → ((a2 < 0 → Q (.inl (some (.int (0 : Int32)))) z) ∧ (¬ a2 < 0 → (((tq_fi z 65) ≤ a2 → Q (.inl (some (.int (0 : Int32)))) z) ∧ (¬ (tq_fi z 65) ≤ a2 → (((((Int64.toUInt64 (tq_fl z 67)) >>> ((Int32.toInt64 (((8 : Int32) * a2) + a1)).toUInt64 &&& Int64.toUInt64 63)).toInt64 &&& (1 : Int64)) = (0 : Int64) → Q (.inl (some (.int (0 : Int32)))) z) ∧ (¬ (((Int64.toUInt64 (tq_fl z 67)) >>> ((Int32.toInt64 (((8 : Int32) * a2) + a1)).toUInt64 &&& Int64.toUInt64 63)).toInt64 &&& (1 : Int64)) = (0 : Int64) → Q (.inl (some (.int (1 : Int32)))) z))))))))))
theorem am_X1_holds {K : Nat × (Nat → Int32)} {x : Nat} {z : tq_S} {Q : tq_O → tq_S → Prop} {a1 : Int32} {a2 : Int32} (h : wm_X1_holds a1 a2 z Q) : tq_M K 0 x mm_X1_holds [.ref 1, .int a1, .int a2] z Q := by
  unfold wm_X1_holds at h
  refine tq_enter (L := [.ref 1, .int a1, .int a2]) mf_X1_holds.1 rfl rfl (Nat.le_of_ble_eq_true rfl) ?_
  refine tq_s_iload_n (kk := 1) (by decide +kernel) rfl ?_
  refine tq_if_lt (off := 45) (tgt := 46) (by decide +kernel) (by decide +kernel) (fun hc => ?_) (fun hc => ?_)
  · replace h := h.1 hc
    refine tq_k_ic (n := 0) (v := (0 : Int32)) (by decide +kernel) kc_0 ?_
    exact tq_ret_z (st := []) (ty := .boolean) (by decide +kernel) (by decide +kernel) rfl h
  · replace h := h.2 hc
    refine tq_s_iload_n (kk := 1) (by decide +kernel) rfl ?_
    refine tq_s_aload_n (kk := 0) (by decide +kernel) rfl ?_
    refine fg_1_7_1 rfl (by decide +kernel) ?_
    refine tq_icmp_ge (off := 37) (tgt := 46) (by decide +kernel) (by decide +kernel) (fun hc => ?_) (fun hc => ?_)
    · replace h := h.1 hc
      refine tq_k_ic (n := 0) (v := (0 : Int32)) (by decide +kernel) kc_0 ?_
      exact tq_ret_z (st := []) (ty := .boolean) (by decide +kernel) (by decide +kernel) rfl h
    · replace h := h.2 hc
      refine tq_s_iload_n (kk := 2) (by decide +kernel) rfl ?_
      refine tq_if_lt (off := 33) (tgt := 46) (by decide +kernel) (by decide +kernel) (fun hc => ?_) (fun hc => ?_)
      · replace h := h.1 hc
        refine tq_k_ic (n := 0) (v := (0 : Int32)) (by decide +kernel) kc_0 ?_
        exact tq_ret_z (st := []) (ty := .boolean) (by decide +kernel) (by decide +kernel) rfl h
      · replace h := h.2 hc
        refine tq_s_iload_n (kk := 2) (by decide +kernel) rfl ?_
        refine tq_s_aload_n (kk := 0) (by decide +kernel) rfl ?_
        refine fg_1_13_1 rfl (by decide +kernel) ?_
        refine tq_icmp_ge (off := 25) (tgt := 46) (by decide +kernel) (by decide +kernel) (fun hc => ?_) (fun hc => ?_)
        · replace h := h.1 hc
          refine tq_k_ic (n := 0) (v := (0 : Int32)) (by decide +kernel) kc_0 ?_
          exact tq_ret_z (st := []) (ty := .boolean) (by decide +kernel) (by decide +kernel) rfl h
        · replace h := h.2 hc
          refine tq_s_aload_n (kk := 0) (by decide +kernel) rfl ?_
          refine fg_1_20_1 rfl (by decide +kernel) ?_
          refine tq_k_bi (n := 8) (v := (8 : Int32)) (by decide +kernel) kb_8 ?_
          refine tq_s_iload_n (kk := 2) (by decide +kernel) rfl ?_
          refine tq_s_imul (by decide +kernel) ?_
          refine tq_s_iload_n (kk := 1) (by decide +kernel) rfl ?_
          refine tq_s_iadd (by decide +kernel) ?_
          refine tq_s_lushr (by decide +kernel) ?_
          refine tq_k_lc (n := 1) (v := (1 : Int64)) (by decide +kernel) (by decide +kernel) ?_
          refine tq_s_land (by decide +kernel) ?_
          refine tq_k_lc (n := 0) (v := (0 : Int64)) (by decide +kernel) (by decide +kernel) ?_
          refine tq_lcmp_eq (off := 7) (tgt := 46) (by decide +kernel) (by decide +kernel) (by decide +kernel) (fun hc => ?_) (fun hc => ?_)
          · replace h := h.1 hc
            refine tq_k_ic (n := 0) (v := (0 : Int32)) (by decide +kernel) kc_0 ?_
            exact tq_ret_z (st := []) (ty := .boolean) (by decide +kernel) (by decide +kernel) rfl h
          · replace h := h.2 hc
            refine tq_k_ic (n := 1) (v := (1 : Int32)) (by decide +kernel) kc_1 ?_
            refine tq_s_goto (off := 4) (tgt := 47) (by decide +kernel) (by decide +kernel) ?_
            exact tq_ret_z (st := []) (ty := .boolean) (by decide +kernel) (by decide +kernel) rfl h
def wm_X1_change (a1 : Int32) (a2 : Int32) (z : tq_S) (Q : tq_O → tq_S → Prop) : Prop := wm_X1_bit a1 a2 z (tq_wl fun r2 z1 => ∀ z3 : tq_S, z3 = tq_sfl z1 67 ((tq_fl z 67) ^^^ r2) → ∀ z4 : tq_S, z4 = tq_sfi z3 68 ((tq_fi z3 68) + (1 : Int32)) → Q (.inl none) z4)
theorem am_X1_change {K : Nat × (Nat → Int32)} {x : Nat} {z : tq_S} {Q : tq_O → tq_S → Prop} {a1 : Int32} {a2 : Int32} (h : wm_X1_change a1 a2 z Q) : tq_M K 1 x mm_X1_change [.ref 1, .int a1, .int a2] z Q := by
  unfold wm_X1_change at h
  refine tq_enter (L := [.ref 1, .int a1, .int a2]) mf_X1_change.1 rfl rfl (Nat.le_of_ble_eq_true rfl) ?_
  refine tq_s_aload_n (kk := 0) (by decide +kernel) rfl ?_
  refine tq_s_dup (by decide +kernel) rfl ?_
  refine fg_1_20_1 rfl (by decide +kernel) ?_
  refine tq_s_iload_n (kk := 1) (by decide +kernel) rfl ?_
  refine tq_s_iload_n (kk := 2) (by decide +kernel) rfl ?_
  refine tq_callS (as := [.int a1, .int a2]) (st := [.long (tq_fl z 67), .ref 1]) (d1 := 0) (x1 := 0) (x2 := x) (by decide +kernel) ln_1_37 mf_X1_bit rfl (by decide) np_X1_bit rfl (Nat.le_of_ble_eq_true rfl) (by decide) (Nat.zero_add _).symm (tq_M_mono (am_X1_bit h) ?_)
  refine tq_wl_e (fun r2 z1 h => ?_)
  refine tq_s_lxor (by decide +kernel) ?_
  refine fp_1_20_1 rfl (by decide +kernel) (fun z3 ez3 => ?_)
  replace h := h z3 ez3
  refine tq_s_aload_n (kk := 0) (by decide +kernel) rfl ?_
  refine tq_s_dup (by decide +kernel) rfl ?_
  refine fg_1_24_1 rfl (by decide +kernel) ?_
  refine tq_k_ic (n := 1) (v := (1 : Int32)) (by decide +kernel) kc_1 ?_
  refine tq_s_iadd (by decide +kernel) ?_
  refine fp_1_24_1 rfl (by decide +kernel) (fun z4 ez4 => ?_)
  replace h := h z4 ez4
  exact tq_ret_v (st := []) (by decide +kernel) rfl h
def wm_X11_cut (a1 : Int32) (a2 : Int32) (z : tq_S) (Q : tq_O → tq_S → Prop) : Prop := wm_X1_holds a1 a2 z (tq_wi fun r2 z1 => ((¬ r2 = 0 → wm_X1_change a1 a2 z1 (tq_wv fun z3 => wm_X2_forget z3 (tq_wv fun z4 => wm_X1_size z4 (tq_wi fun r6 z5 => Q (.inl (some (.int r6))) z5)))) ∧ (r2 = 0 → Q (.inr 3) z1)))
theorem am_X11_cut {K : Nat × (Nat → Int32)} {z : tq_S} {Q : tq_O → tq_S → Prop} {a1 : Int32} {a2 : Int32} (h : wm_X11_cut a1 a2 z Q) : tq_M K 2 1 mm_X11_cut [.ref 0, .int a1, .int a2] z Q := by
  unfold wm_X11_cut at h
  refine tq_enter (L := [.ref 0, .int a1, .int a2]) mf_X11_cut.1 rfl rfl (Nat.le_of_ble_eq_true rfl) ?_
  refine tq_s_aload_n (kk := 0) (by decide +kernel) rfl ?_
  refine fg_11_10_0 rfl (by decide +kernel) ?_
  refine tq_s_iload_n (kk := 1) (by decide +kernel) rfl ?_
  refine tq_s_iload_n (kk := 2) (by decide +kernel) rfl ?_
  refine tq_callVN (as := [.int a1, .int a2]) (st := []) (d1 := 0) (x1 := 0) (x2 := 1) (by decide +kernel) ln_11_137 mf_X1_holds rfl sh_1 rfl (by decide) np_X1_holds rfl (Nat.le_of_ble_eq_true rfl) (by decide) (Nat.zero_add _).symm (tq_M_mono (am_X1_holds h) ?_)
  refine tq_wi_e (fun r2 z1 h => ?_)
  refine tq_if_ne (off := 13) (tgt := 22) (by decide +kernel) (by decide +kernel) (fun hc => ?_) (fun hc => ?_)
  · replace h := h.1 hc
    refine tq_s_aload_n (kk := 0) (by decide +kernel) rfl ?_
    refine fg_11_10_0 rfl (by decide +kernel) ?_
    refine tq_s_iload_n (kk := 1) (by decide +kernel) rfl ?_
    refine tq_s_iload_n (kk := 2) (by decide +kernel) rfl ?_
    refine tq_callVN (as := [.int a1, .int a2]) (st := []) (d1 := 1) (x1 := 0) (x2 := 1) (by decide +kernel) ln_11_146 mf_X1_change rfl sh_1 rfl (by decide) np_X1_change rfl (Nat.le_of_ble_eq_true rfl) (by decide) (Nat.zero_add _).symm (tq_M_mono (am_X1_change h) ?_)
    refine tq_wv_e (fun z3 h => ?_)
    refine tq_s_aload_n (kk := 0) (by decide +kernel) rfl ?_
    refine fg_11_28_0 rfl (by decide +kernel) ?_
    refine tq_callVN (as := []) (st := []) (d1 := 0) (x1 := 0) (x2 := 1) (by decide +kernel) ln_11_120 mf_X2_forget rfl sh_8 rfl (by decide) np_X2_forget rfl (Nat.le_of_ble_eq_true rfl) (by decide) (Nat.zero_add _).symm (tq_M_mono (am_X2_forget h) ?_)
    refine tq_wv_e (fun z4 h => ?_)
    refine tq_s_aload_n (kk := 0) (by decide +kernel) rfl ?_
    refine fg_11_10_0 rfl (by decide +kernel) ?_
    refine tq_callVN (as := []) (st := []) (d1 := 1) (x1 := 0) (x2 := 1) (by decide +kernel) ln_11_123 mf_X1_size rfl sh_1 rfl (by decide) np_X1_size rfl (Nat.le_of_ble_eq_true rfl) (by decide) (Nat.zero_add _).symm (tq_M_mono (am_X1_size h) ?_)
    refine tq_wi_e (fun r6 z5 h => ?_)
    exact tq_ret_i (st := []) (by decide +kernel) rfl h
  · replace h := h.2 hc
    exact tq_throwS th_11_141_143 rfl (by decide +kernel) (by decide +kernel) (by decide +kernel) (by decide +kernel) (by decide +kernel) (Nat.le_of_ble_eq_true rfl) rfl (Nat.le_refl 1) h
def wm_X1_isWithin (a1 : Int32) (a2 : Int32) (z : tq_S) (Q : tq_O → tq_S → Prop) : Prop := ((a1 < 0 → Q (.inl (some (.int (0 : Int32)))) z) ∧ (¬ a1 < 0 → (((tq_fi z 64) ≤ a1 → Q (.inl (some (.int (0 : Int32)))) z) ∧ (¬ (tq_fi z 64) ≤ a1 → ((a2 < 0 → Q (.inl (some (.int (0 : Int32)))) z) ∧ (¬ a2 < 0 → (((tq_fi z 65) ≤ a2 → Q (.inl (some (.int (0 : Int32)))) z) ∧ (¬ (tq_fi z 65) ≤ a2 → Q (.inl (some (.int (1 : Int32)))) z))))))))
theorem am_X1_isWithin {K : Nat × (Nat → Int32)} {x : Nat} {z : tq_S} {Q : tq_O → tq_S → Prop} {a1 : Int32} {a2 : Int32} (h : wm_X1_isWithin a1 a2 z Q) : tq_M K 0 x mm_X1_isWithin [.ref 1, .int a1, .int a2] z Q := by
  unfold wm_X1_isWithin at h
  refine tq_enter (L := [.ref 1, .int a1, .int a2]) mf_X1_isWithin.1 rfl rfl (Nat.le_of_ble_eq_true rfl) ?_
  refine tq_s_iload_n (kk := 1) (by decide +kernel) rfl ?_
  refine tq_if_lt (off := 27) (tgt := 28) (by decide +kernel) (by decide +kernel) (fun hc => ?_) (fun hc => ?_)
  · replace h := h.1 hc
    refine tq_k_ic (n := 0) (v := (0 : Int32)) (by decide +kernel) kc_0 ?_
    exact tq_ret_z (st := []) (ty := .boolean) (by decide +kernel) (by decide +kernel) rfl h
  · replace h := h.2 hc
    refine tq_s_iload_n (kk := 1) (by decide +kernel) rfl ?_
    refine tq_s_aload_n (kk := 0) (by decide +kernel) rfl ?_
    refine fg_1_7_1 rfl (by decide +kernel) ?_
    refine tq_icmp_ge (off := 19) (tgt := 28) (by decide +kernel) (by decide +kernel) (fun hc => ?_) (fun hc => ?_)
    · replace h := h.1 hc
      refine tq_k_ic (n := 0) (v := (0 : Int32)) (by decide +kernel) kc_0 ?_
      exact tq_ret_z (st := []) (ty := .boolean) (by decide +kernel) (by decide +kernel) rfl h
    · replace h := h.2 hc
      refine tq_s_iload_n (kk := 2) (by decide +kernel) rfl ?_
      refine tq_if_lt (off := 15) (tgt := 28) (by decide +kernel) (by decide +kernel) (fun hc => ?_) (fun hc => ?_)
      · replace h := h.1 hc
        refine tq_k_ic (n := 0) (v := (0 : Int32)) (by decide +kernel) kc_0 ?_
        exact tq_ret_z (st := []) (ty := .boolean) (by decide +kernel) (by decide +kernel) rfl h
      · replace h := h.2 hc
        refine tq_s_iload_n (kk := 2) (by decide +kernel) rfl ?_
        refine tq_s_aload_n (kk := 0) (by decide +kernel) rfl ?_
        refine fg_1_13_1 rfl (by decide +kernel) ?_
        refine tq_icmp_ge (off := 7) (tgt := 28) (by decide +kernel) (by decide +kernel) (fun hc => ?_) (fun hc => ?_)
        · replace h := h.1 hc
          refine tq_k_ic (n := 0) (v := (0 : Int32)) (by decide +kernel) kc_0 ?_
          exact tq_ret_z (st := []) (ty := .boolean) (by decide +kernel) (by decide +kernel) rfl h
        · replace h := h.2 hc
          refine tq_k_ic (n := 1) (v := (1 : Int32)) (by decide +kernel) kc_1 ?_
          refine tq_s_goto (off := 4) (tgt := 29) (by decide +kernel) (by decide +kernel) ?_
          exact tq_ret_z (st := []) (ty := .boolean) (by decide +kernel) (by decide +kernel) rfl h
def wc_X11_fill_24 (Q : tq_O → tq_S → Prop)  (z : tq_S) : Prop := Q (.inr 3) z
theorem ac_X11_fill_24 {K : Nat × (Nat → Int32)} {Q : tq_O → tq_S → Prop}  {z : tq_S} (h : wc_X11_fill_24 Q z) : tq_T K 2 1 mm_X11_fill 24 [.null, .null, .null] [] z Q := by
  unfold wc_X11_fill_24 at h
  exact tq_throwS th_11_141_153 rfl (by decide +kernel) (by decide +kernel) (by decide +kernel) (by decide +kernel) (by decide +kernel) (Nat.le_of_ble_eq_true rfl) rfl (Nat.le_refl 1) h
def wm_X11_fill (a1 : Int32) (a2 : Int32) (z : tq_S) (Q : tq_O → tq_S → Prop) : Prop := wm_X1_isWithin a1 a2 z (tq_wi fun r2 z1 => ((r2 = 0 → wc_X11_fill_24 Q z1) ∧ (¬ r2 = 0 → wm_X1_holds a1 a2 z1 (tq_wi fun r4 z3 => ((r4 = 0 → wm_X1_change a1 a2 z3 (tq_wv fun z5 => wm_X2_forget z5 (tq_wv fun z6 => wm_X1_size z6 (tq_wi fun r8 z7 => Q (.inl (some (.int r8))) z7)))) ∧ (¬ r4 = 0 → wc_X11_fill_24 Q z3))))))
theorem am_X11_fill {K : Nat × (Nat → Int32)} {z : tq_S} {Q : tq_O → tq_S → Prop} {a1 : Int32} {a2 : Int32} (h : wm_X11_fill a1 a2 z Q) : tq_M K 2 1 mm_X11_fill [.ref 0, .int a1, .int a2] z Q := by
  unfold wm_X11_fill at h
  refine tq_enter (L := [.ref 0, .int a1, .int a2]) mf_X11_fill.1 rfl rfl (Nat.le_of_ble_eq_true rfl) ?_
  refine tq_s_aload_n (kk := 0) (by decide +kernel) rfl ?_
  refine fg_11_10_0 rfl (by decide +kernel) ?_
  refine tq_s_iload_n (kk := 1) (by decide +kernel) rfl ?_
  refine tq_s_iload_n (kk := 2) (by decide +kernel) rfl ?_
  refine tq_callVN (as := [.int a1, .int a2]) (st := []) (d1 := 0) (x1 := 0) (x2 := 1) (by decide +kernel) ln_11_150 mf_X1_isWithin rfl sh_1 rfl (by decide) np_X1_isWithin rfl (Nat.le_of_ble_eq_true rfl) (by decide) (Nat.zero_add _).symm (tq_M_mono (am_X1_isWithin h) ?_)
  refine tq_wi_e (fun r2 z1 h => ?_)
  refine tq_if_eq (off := 15) (tgt := 24) (by decide +kernel) (by decide +kernel) (fun hc => ?_) (fun hc => ?_)
  · replace h := h.1 hc
    exact tq_to (tq_ld1 (tq_ld1 (tq_ld1 tq_l0))) (ac_X11_fill_24 h)
  · replace h := h.2 hc
    refine tq_s_aload_n (kk := 0) (by decide +kernel) rfl ?_
    refine fg_11_10_0 rfl (by decide +kernel) ?_
    refine tq_s_iload_n (kk := 1) (by decide +kernel) rfl ?_
    refine tq_s_iload_n (kk := 2) (by decide +kernel) rfl ?_
    refine tq_callVN (as := [.int a1, .int a2]) (st := []) (d1 := 0) (x1 := 0) (x2 := 1) (by decide +kernel) ln_11_137 mf_X1_holds rfl sh_1 rfl (by decide) np_X1_holds rfl (Nat.le_of_ble_eq_true rfl) (by decide) (Nat.zero_add _).symm (tq_M_mono (am_X1_holds h) ?_)
    refine tq_wi_e (fun r4 z3 h => ?_)
    refine tq_if_eq (off := 13) (tgt := 34) (by decide +kernel) (by decide +kernel) (fun hc => ?_) (fun hc => ?_)
    · replace h := h.1 hc
      refine tq_s_aload_n (kk := 0) (by decide +kernel) rfl ?_
      refine fg_11_10_0 rfl (by decide +kernel) ?_
      refine tq_s_iload_n (kk := 1) (by decide +kernel) rfl ?_
      refine tq_s_iload_n (kk := 2) (by decide +kernel) rfl ?_
      refine tq_callVN (as := [.int a1, .int a2]) (st := []) (d1 := 1) (x1 := 0) (x2 := 1) (by decide +kernel) ln_11_146 mf_X1_change rfl sh_1 rfl (by decide) np_X1_change rfl (Nat.le_of_ble_eq_true rfl) (by decide) (Nat.zero_add _).symm (tq_M_mono (am_X1_change h) ?_)
      refine tq_wv_e (fun z5 h => ?_)
      refine tq_s_aload_n (kk := 0) (by decide +kernel) rfl ?_
      refine fg_11_28_0 rfl (by decide +kernel) ?_
      refine tq_callVN (as := []) (st := []) (d1 := 0) (x1 := 0) (x2 := 1) (by decide +kernel) ln_11_120 mf_X2_forget rfl sh_8 rfl (by decide) np_X2_forget rfl (Nat.le_of_ble_eq_true rfl) (by decide) (Nat.zero_add _).symm (tq_M_mono (am_X2_forget h) ?_)
      refine tq_wv_e (fun z6 h => ?_)
      refine tq_s_aload_n (kk := 0) (by decide +kernel) rfl ?_
      refine fg_11_10_0 rfl (by decide +kernel) ?_
      refine tq_callVN (as := []) (st := []) (d1 := 1) (x1 := 0) (x2 := 1) (by decide +kernel) ln_11_123 mf_X1_size rfl sh_1 rfl (by decide) np_X1_size rfl (Nat.le_of_ble_eq_true rfl) (by decide) (Nat.zero_add _).symm (tq_M_mono (am_X1_size h) ?_)
      refine tq_wi_e (fun r8 z7 h => ?_)
      exact tq_ret_i (st := []) (by decide +kernel) rfl h
    · replace h := h.2 hc
      exact tq_to (tq_ld1 (tq_ld1 (tq_ld1 tq_l0))) (ac_X11_fill_24 h)
