def wm_X11_isFrom (a0 : Int32) (a1 : Int32) (a2 : Int32) (z : tq_S) (Q : tq_O → tq_S → Prop) : Prop := ((a1 < a0 → Q (.inl (some (.int (0 : Int32)))) z) ∧ (¬ a1 < a0 → ((a2 < a1 → Q (.inl (some (.int (0 : Int32)))) z) ∧ (¬ a2 < a1 → Q (.inl (some (.int (1 : Int32)))) z))))
theorem am_X11_isFrom {K : Nat × (Nat → Int32)} {x : Nat} {z : tq_S} {Q : tq_O → tq_S → Prop} {a0 : Int32} {a1 : Int32} {a2 : Int32} (h : wm_X11_isFrom a0 a1 a2 z Q) : tq_M K 0 x mm_X11_isFrom [.int a0, .int a1, .int a2] z Q := by
  unfold wm_X11_isFrom at h
  refine tq_enter (L := [.int a0, .int a1, .int a2]) mf_X11_isFrom.1 rfl rfl (Nat.le_of_ble_eq_true rfl) ?_
  refine tq_s_iload_n (kk := 1) (by decide +kernel) rfl ?_
  refine tq_s_iload_n (kk := 0) (by decide +kernel) rfl ?_
  refine tq_icmp_lt (off := 12) (tgt := 14) (by decide +kernel) (by decide +kernel) (fun hc => ?_) (fun hc => ?_)
  · replace h := h.1 hc
    refine tq_k_ic (n := 0) (v := (0 : Int32)) (by decide +kernel) kc_0 ?_
    exact tq_ret_z (st := []) (ty := .boolean) (by decide +kernel) (by decide +kernel) rfl h
  · replace h := h.2 hc
    refine tq_s_iload_n (kk := 1) (by decide +kernel) rfl ?_
    refine tq_s_iload_n (kk := 2) (by decide +kernel) rfl ?_
    refine tq_icmp_gt (off := 7) (tgt := 14) (by decide +kernel) (by decide +kernel) (fun hc => ?_) (fun hc => ?_)
    · replace h := h.1 hc
      refine tq_k_ic (n := 0) (v := (0 : Int32)) (by decide +kernel) kc_0 ?_
      exact tq_ret_z (st := []) (ty := .boolean) (by decide +kernel) (by decide +kernel) rfl h
    · replace h := h.2 hc
      refine tq_k_ic (n := 1) (v := (1 : Int32)) (by decide +kernel) kc_1 ?_
      refine tq_s_goto (off := 4) (tgt := 15) (by decide +kernel) (by decide +kernel) ?_
      exact tq_ret_z (st := []) (ty := .boolean) (by decide +kernel) (by decide +kernel) rfl h
def wb_X1_rectangleOf_12 (B12 : Int64 → Int32 → tq_S → Prop) (Q : tq_O → tq_S → Prop) (a1 : Int32) (a2 : Int64) (a4 : Int64) (a6 : Int32) (z : tq_S) : Prop := ((a1 ≤ a6 → Q (.inl (some (.long a4))) z) ∧ (¬ a1 ≤ a6 → ∀ v101 : Int64, v101 = (a4 ||| (a2 <<< ((Int32.toInt64 ((8 : Int32) * a6)) &&& 63))) → ∀ v102 : Int32, v102 = a6 + (1 : Int32) → B12 v101 v102 z))
def wc_X1_rectangleOf_12 (Q : tq_O → tq_S → Prop) (a1 : Int32) (a2 : Int64) (a4 : Int64) (a6 : Int32) (z : tq_S) : Prop := tq_lp (σ := Int64 × Int32 × tq_S) (fun B s => wb_X1_rectangleOf_12 (fun b4 b6 z => B (b4, b6, z)) Q a1 a2 s.1 s.2.1 s.2.2) (a4, a6, z)
theorem ab_X1_rectangleOf_12 {K : Nat × (Nat → Int32)} {x : Nat} {Q : tq_O → tq_S → Prop} {B12 : Int64 → Int32 → tq_S → Prop} {a1 : Int32} {a2 : Int64} {a4 : Int64} {a6 : Int32} {z : tq_S} (hB12 : ∀ (b4 : Int64) (b6 : Int32) (z : tq_S), B12 b4 b6 z → tq_T K 0 x mm_X1_rectangleOf 12 [.null, .int a1, .long a2, .null, .long b4, .null, .int b6] [] z Q) (h : wb_X1_rectangleOf_12 B12 Q a1 a2 a4 a6 z) : tq_T K 0 x mm_X1_rectangleOf 12 [.null, .int a1, .long a2, .null, .long a4, .null, .int a6] [] z Q := by
  unfold wb_X1_rectangleOf_12 at h
  refine tq_s_iload (i := 6) (by decide +kernel) rfl ?_
  refine tq_s_iload_n (kk := 1) (by decide +kernel) rfl ?_
  refine tq_icmp_ge (off := 21) (tgt := 36) (by decide +kernel) (by decide +kernel) (fun hc => ?_) (fun hc => ?_)
  · replace h := h.1 hc
    refine tq_s_lload (i := 4) (by decide +kernel) rfl ?_
    exact tq_ret_l (st := []) (by decide +kernel) rfl h
  · replace h := h.2 hc
    refine tq_s_lload (i := 4) (by decide +kernel) rfl ?_
    refine tq_s_lload_n (kk := 2) (by decide +kernel) rfl ?_
    refine tq_k_bi (n := 8) (v := (8 : Int32)) (by decide +kernel) kb_8 ?_
    refine tq_s_iload (i := 6) (by decide +kernel) rfl ?_
    refine tq_s_imul (by decide +kernel) ?_
    refine tq_s_lshl (by decide +kernel) ?_
    refine tq_s_lor (by decide +kernel) ?_
    refine tq_g_lstore (i := 4) (fun v101 => [.null, .int a1, .long a2, .null, .long v101, .null, .int a6]) (by decide +kernel) (by decide) (fun _ => rfl) (fun v101 ev101 => ?_)
    replace h := h v101 ev101
    refine tq_g_iinc (i := 6) (fun v102 => [.null, .int a1, .long a2, .null, .long v101, .null, .int v102]) (by decide +kernel) rfl (1 : Int32) kc_1 (fun _ => rfl) (fun v102 ev102 => ?_)
    replace h := h v102 ev102
    refine tq_s_goto (off := -21) (tgt := 12) (by decide +kernel) (by decide +kernel) ?_
    exact hB12 _ _ _ h
theorem ac_X1_rectangleOf_12 {K : Nat × (Nat → Int32)} {x : Nat} {Q : tq_O → tq_S → Prop} {a1 : Int32} {a2 : Int64} {a4 : Int64} {a6 : Int32} {z : tq_S} (h : wc_X1_rectangleOf_12 Q a1 a2 a4 a6 z) : tq_T K 0 x mm_X1_rectangleOf 12 [.null, .int a1, .long a2, .null, .long a4, .null, .int a6] [] z Q :=
  tq_lp_T (σ := Int64 × Int32 × tq_S) (s := (a4, a6, z)) (G := fun s => tq_T K 0 x mm_X1_rectangleOf 12 [.null, .int a1, .long a2, .null, .long s.1, .null, .int s.2.1] [] s.2.2 Q) (fun B hB s h => ab_X1_rectangleOf_12 (fun b4 b6 z h => hB (b4, b6, z) h) h) h
def wm_X1_rectangleOf (a0 : Int32) (a1 : Int32) (z : tq_S) (Q : tq_O → tq_S → Prop) : Prop := ∀ v1 : Int64, v1 = (((1 : Int64) <<< ((Int32.toInt64 a0) &&& 63)) - (1 : Int64)) → wc_X1_rectangleOf_12 Q a1 v1 (0 : Int64) (0 : Int32) z
theorem am_X1_rectangleOf {K : Nat × (Nat → Int32)} {x : Nat} {z : tq_S} {Q : tq_O → tq_S → Prop} {a0 : Int32} {a1 : Int32} (h : wm_X1_rectangleOf a0 a1 z Q) : tq_M K 0 x mm_X1_rectangleOf [.int a0, .int a1] z Q := by
  unfold wm_X1_rectangleOf at h
  refine tq_enter (L := [.int a0, .int a1, .null, .null, .null, .null, .null]) mf_X1_rectangleOf.1 rfl rfl (Nat.le_of_ble_eq_true rfl) ?_
  refine tq_k_lc (n := 1) (v := (1 : Int64)) (by decide +kernel) (by decide +kernel) ?_
  refine tq_s_iload_n (kk := 0) (by decide +kernel) rfl ?_
  refine tq_s_lshl (by decide +kernel) ?_
  refine tq_k_lc (n := 1) (v := (1 : Int64)) (by decide +kernel) (by decide +kernel) ?_
  refine tq_s_lsub (by decide +kernel) ?_
  refine tq_g_lstore_n (kk := 2) (fun v1 => [.int a0, .int a1, .long v1, .null, .null, .null, .null]) (by decide +kernel) (by decide) (fun _ => rfl) (fun v1 ev1 => ?_)
  replace h := h v1 ev1
  refine tq_k_lc (n := 0) (v := (0 : Int64)) (by decide +kernel) (by decide +kernel) ?_
  refine tq_s_lstore (i := 4) (L9 := [.int a0, .int a1, .long v1, .null, .long (0 : Int64), .null, .null]) (by decide +kernel) (by decide) rfl ?_
  refine tq_k_ic (n := 0) (v := (0 : Int32)) (by decide +kernel) kc_0 ?_
  refine tq_s_istore (i := 6) (L9 := [.int a0, .int a1, .long v1, .null, .long (0 : Int64), .null, .int (0 : Int32)]) (by decide +kernel) (by decide) rfl ?_
  exact tq_to (tq_ld1 (tq_lk1 (tq_lk1 (tq_lk1 (tq_lk1 (tq_lk1 (tq_lk1 tq_l0))))))) (ac_X1_rectangleOf_12 h)
def wm_X1_tell (a1 : Int32) (a2 : Int32) (a3 : Int64) (z : tq_S) (Q : tq_O → tq_S → Prop) : Prop := ∀ z1 : tq_S, z1 = tq_sfi z 64 a1 → ∀ z2 : tq_S, z2 = tq_sfi z1 65 a2 → ∀ z3 : tq_S, z3 = tq_sfl z2 67 a3 → ∀ z4 : tq_S, z4 = tq_sfi z3 66 (0 : Int32) → ∀ z5 : tq_S, z5 = tq_sfi z4 68 ((tq_fi z4 68) + (1 : Int32)) → Q (.inl none) z5
theorem am_X1_tell {K : Nat × (Nat → Int32)} {x : Nat} {z : tq_S} {Q : tq_O → tq_S → Prop} {a1 : Int32} {a2 : Int32} {a3 : Int64} (h : wm_X1_tell a1 a2 a3 z Q) : tq_M K 0 x mm_X1_tell [.ref 1, .int a1, .int a2, .long a3] z Q := by
  unfold wm_X1_tell at h
  refine tq_enter (L := [.ref 1, .int a1, .int a2, .long a3, .null]) mf_X1_tell.1 rfl rfl (Nat.le_of_ble_eq_true rfl) ?_
  refine tq_s_aload_n (kk := 0) (by decide +kernel) rfl ?_
  refine tq_s_iload_n (kk := 1) (by decide +kernel) rfl ?_
  refine fp_1_7_1 rfl (by decide +kernel) (fun z1 ez1 => ?_)
  replace h := h z1 ez1
  refine tq_s_aload_n (kk := 0) (by decide +kernel) rfl ?_
  refine tq_s_iload_n (kk := 2) (by decide +kernel) rfl ?_
  refine fp_1_13_1 rfl (by decide +kernel) (fun z2 ez2 => ?_)
  replace h := h z2 ez2
  refine tq_s_aload_n (kk := 0) (by decide +kernel) rfl ?_
  refine tq_s_lload_n (kk := 3) (by decide +kernel) rfl ?_
  refine fp_1_20_1 rfl (by decide +kernel) (fun z3 ez3 => ?_)
  replace h := h z3 ez3
  refine tq_s_aload_n (kk := 0) (by decide +kernel) rfl ?_
  refine tq_k_ic (n := 0) (v := (0 : Int32)) (by decide +kernel) kc_0 ?_
  refine fp_1_16_1 rfl (by decide +kernel) ⟨by decide +kernel, by decide +kernel⟩ (fun z4 ez4 => ?_)
  replace h := h z4 ez4
  refine tq_s_aload_n (kk := 0) (by decide +kernel) rfl ?_
  refine tq_s_dup (by decide +kernel) rfl ?_
  refine fg_1_24_1 rfl (by decide +kernel) ?_
  refine tq_k_ic (n := 1) (v := (1 : Int32)) (by decide +kernel) kc_1 ?_
  refine tq_s_iadd (by decide +kernel) ?_
  refine fp_1_24_1 rfl (by decide +kernel) (fun z5 ez5 => ?_)
  replace h := h z5 ez5
  exact tq_ret_v (st := []) (by decide +kernel) rfl h
def wm_X2_forget  (z : tq_S) (Q : tq_O → tq_S → Prop) : Prop := ∀ z1 : tq_S, z1 = tq_sfi z 516 (0 : Int32) → ∀ z2 : tq_S, z2 = tq_sfi z1 519 (0 : Int32) → ∀ z3 : tq_S, z3 = tq_sfi z2 522 (0 : Int32) → ∀ z4 : tq_S, z4 = tq_sfl z3 517 (0 : Int64) → ∀ z5 : tq_S, z5 = tq_sfl z4 518 (0 : Int64) → Q (.inl none) z5
theorem am_X2_forget {K : Nat × (Nat → Int32)} {x : Nat} {z : tq_S} {Q : tq_O → tq_S → Prop}  (h : wm_X2_forget z Q) : tq_M K 0 x mm_X2_forget [.ref 8] z Q := by
  unfold wm_X2_forget at h
  refine tq_enter (L := [.ref 8]) mf_X2_forget.1 rfl rfl (Nat.le_of_ble_eq_true rfl) ?_
  refine tq_s_aload_n (kk := 0) (by decide +kernel) rfl ?_
  refine tq_k_ic (n := 0) (v := (0 : Int32)) (by decide +kernel) kc_0 ?_
  refine fp_2_28_8 rfl (by decide +kernel) ⟨by decide +kernel, by decide +kernel⟩ (fun z1 ez1 => ?_)
  replace h := h z1 ez1
  refine tq_s_aload_n (kk := 0) (by decide +kernel) rfl ?_
  refine tq_k_ic (n := 0) (v := (0 : Int32)) (by decide +kernel) kc_0 ?_
  refine fp_2_32_8 rfl (by decide +kernel) ⟨by decide +kernel, by decide +kernel⟩ (fun z2 ez2 => ?_)
  replace h := h z2 ez2
  refine tq_s_aload_n (kk := 0) (by decide +kernel) rfl ?_
  refine tq_k_ic (n := 0) (v := (0 : Int32)) (by decide +kernel) kc_0 ?_
  refine fp_2_24_8 rfl (by decide +kernel) (fun z3 ez3 => ?_)
  replace h := h z3 ez3
  refine tq_s_aload_n (kk := 0) (by decide +kernel) rfl ?_
  refine tq_k_lc (n := 0) (v := (0 : Int64)) (by decide +kernel) (by decide +kernel) ?_
  refine fp_2_35_8 rfl (by decide +kernel) (fun z4 ez4 => ?_)
  replace h := h z4 ez4
  refine tq_s_aload_n (kk := 0) (by decide +kernel) rfl ?_
  refine tq_k_lc (n := 0) (v := (0 : Int64)) (by decide +kernel) (by decide +kernel) ?_
  refine fp_2_39_8 rfl (by decide +kernel) (fun z5 ez5 => ?_)
  replace h := h z5 ez5
  exact tq_ret_v (st := []) (by decide +kernel) rfl h
def wm_J13_bitCount_95d88 (a0 : Int64) (z : tq_S) (Q : tq_O → tq_S → Prop) : Prop := ∀ v1 : Int64, v1 = (a0 - (((Int64.toUInt64 a0) >>> ((Int32.toInt64 (1 : Int32)).toUInt64 &&& Int64.toUInt64 63)).toInt64 &&& (6148914691236517205 : Int64))) → ∀ v2 : Int64, v2 = ((v1 &&& (3689348814741910323 : Int64)) + (((Int64.toUInt64 v1) >>> ((Int32.toInt64 (2 : Int32)).toUInt64 &&& Int64.toUInt64 63)).toInt64 &&& (3689348814741910323 : Int64))) → ∀ v3 : Int64, v3 = ((v2 + ((Int64.toUInt64 v2) >>> ((Int32.toInt64 (4 : Int32)).toUInt64 &&& Int64.toUInt64 63)).toInt64) &&& (1085102592571150095 : Int64)) → ∀ v4 : Int64, v4 = (v3 + ((Int64.toUInt64 v3) >>> ((Int32.toInt64 (8 : Int32)).toUInt64 &&& Int64.toUInt64 63)).toInt64) → ∀ v5 : Int64, v5 = (v4 + ((Int64.toUInt64 v4) >>> ((Int32.toInt64 (16 : Int32)).toUInt64 &&& Int64.toUInt64 63)).toInt64) → ∀ v6 : Int64, v6 = (v5 + ((Int64.toUInt64 v5) >>> ((Int32.toInt64 (32 : Int32)).toUInt64 &&& Int64.toUInt64 63)).toInt64) → Q (.inl (some (.int ((Int64.toInt32 v6) &&& (127 : Int32))))) z
theorem am_J13_bitCount_95d88 {K : Nat × (Nat → Int32)} {x : Nat} {z : tq_S} {Q : tq_O → tq_S → Prop} {a0 : Int64} (h : wm_J13_bitCount_95d88 a0 z Q) : tq_M K 0 x mm_J13_bitCount_95d88 [.long a0] z Q := by
  unfold wm_J13_bitCount_95d88 at h
  refine tq_enter (L := [.long a0, .null]) mf_J13_bitCount_95d88.1 rfl rfl (Nat.le_of_ble_eq_true rfl) ?_
  refine tq_s_lload_n (kk := 0) (by decide +kernel) rfl ?_
  refine tq_s_lload_n (kk := 0) (by decide +kernel) rfl ?_
  refine tq_k_ic (n := 1) (v := (1 : Int32)) (by decide +kernel) kc_1 ?_
  refine tq_s_lushr (by decide +kernel) ?_
  refine tq_s_ldc2 (i := 314) (v := (6148914691236517205 : Int64)) (by decide +kernel) (by decide +kernel) ?_
  refine tq_s_land (by decide +kernel) ?_
  refine tq_s_lsub (by decide +kernel) ?_
  refine tq_g_lstore_n (kk := 0) (fun v1 => [.long v1, .null]) (by decide +kernel) (by decide) (fun _ => rfl) (fun v1 ev1 => ?_)
  replace h := h v1 ev1
  refine tq_s_lload_n (kk := 0) (by decide +kernel) rfl ?_
  refine tq_s_ldc2 (i := 316) (v := (3689348814741910323 : Int64)) (by decide +kernel) (by decide +kernel) ?_
  refine tq_s_land (by decide +kernel) ?_
  refine tq_s_lload_n (kk := 0) (by decide +kernel) rfl ?_
  refine tq_k_ic (n := 2) (v := (2 : Int32)) (by decide +kernel) kc_2 ?_
  refine tq_s_lushr (by decide +kernel) ?_
  refine tq_s_ldc2 (i := 316) (v := (3689348814741910323 : Int64)) (by decide +kernel) (by decide +kernel) ?_
  refine tq_s_land (by decide +kernel) ?_
  refine tq_s_ladd (by decide +kernel) ?_
  refine tq_g_lstore_n (kk := 0) (fun v2 => [.long v2, .null]) (by decide +kernel) (by decide) (fun _ => rfl) (fun v2 ev2 => ?_)
  replace h := h v2 ev2
  refine tq_s_lload_n (kk := 0) (by decide +kernel) rfl ?_
  refine tq_s_lload_n (kk := 0) (by decide +kernel) rfl ?_
  refine tq_k_ic (n := 4) (v := (4 : Int32)) (by decide +kernel) kc_4 ?_
  refine tq_s_lushr (by decide +kernel) ?_
  refine tq_s_ladd (by decide +kernel) ?_
  refine tq_s_ldc2 (i := 318) (v := (1085102592571150095 : Int64)) (by decide +kernel) (by decide +kernel) ?_
  refine tq_s_land (by decide +kernel) ?_
  refine tq_g_lstore_n (kk := 0) (fun v3 => [.long v3, .null]) (by decide +kernel) (by decide) (fun _ => rfl) (fun v3 ev3 => ?_)
  replace h := h v3 ev3
  refine tq_s_lload_n (kk := 0) (by decide +kernel) rfl ?_
  refine tq_s_lload_n (kk := 0) (by decide +kernel) rfl ?_
  refine tq_k_bi (n := 8) (v := (8 : Int32)) (by decide +kernel) kb_8 ?_
  refine tq_s_lushr (by decide +kernel) ?_
  refine tq_s_ladd (by decide +kernel) ?_
  refine tq_g_lstore_n (kk := 0) (fun v4 => [.long v4, .null]) (by decide +kernel) (by decide) (fun _ => rfl) (fun v4 ev4 => ?_)
  replace h := h v4 ev4
  refine tq_s_lload_n (kk := 0) (by decide +kernel) rfl ?_
  refine tq_s_lload_n (kk := 0) (by decide +kernel) rfl ?_
  refine tq_k_bi (n := 16) (v := (16 : Int32)) (by decide +kernel) kb_16 ?_
  refine tq_s_lushr (by decide +kernel) ?_
  refine tq_s_ladd (by decide +kernel) ?_
  refine tq_g_lstore_n (kk := 0) (fun v5 => [.long v5, .null]) (by decide +kernel) (by decide) (fun _ => rfl) (fun v5 ev5 => ?_)
  replace h := h v5 ev5
  refine tq_s_lload_n (kk := 0) (by decide +kernel) rfl ?_
  refine tq_s_lload_n (kk := 0) (by decide +kernel) rfl ?_
  refine tq_k_bi (n := 32) (v := (32 : Int32)) (by decide +kernel) kb_32 ?_
  refine tq_s_lushr (by decide +kernel) ?_
  refine tq_s_ladd (by decide +kernel) ?_
  refine tq_g_lstore_n (kk := 0) (fun v6 => [.long v6, .null]) (by decide +kernel) (by decide) (fun _ => rfl) (fun v6 ev6 => ?_)
  replace h := h v6 ev6
  refine tq_s_lload_n (kk := 0) (by decide +kernel) rfl ?_
  refine tq_s_l2i (by decide +kernel) ?_
  refine tq_k_bi (n := 127) (v := (127 : Int32)) (by decide +kernel) kb_127 ?_
  refine tq_s_iand (by decide +kernel) ?_
  exact tq_ret_i (st := []) (by decide +kernel) rfl h
def wm_X1_size  (z : tq_S) (Q : tq_O → tq_S → Prop) : Prop := wm_J13_bitCount_95d88 (tq_fl z 67) z (tq_wi fun r2 z1 => Q (.inl (some (.int r2))) z1)
theorem am_X1_size {K : Nat × (Nat → Int32)} {x : Nat} {z : tq_S} {Q : tq_O → tq_S → Prop}  (h : wm_X1_size z Q) : tq_M K 1 x mm_X1_size [.ref 1] z Q := by
  unfold wm_X1_size at h
  refine tq_enter (L := [.ref 1]) mf_X1_size.1 rfl rfl (Nat.le_of_ble_eq_true rfl) ?_
  refine tq_s_aload_n (kk := 0) (by decide +kernel) rfl ?_
  refine fg_1_20_1 rfl (by decide +kernel) ?_
  refine tq_callS (as := [.long (tq_fl z 67)]) (st := []) (d1 := 0) (x1 := 0) (x2 := x) (by decide +kernel) ln_1_41 mf_J13_bitCount_95d88 rfl (by decide) np_J13_bitCount_95d88 rfl (Nat.le_of_ble_eq_true rfl) (by decide) (Nat.zero_add _).symm (tq_M_mono (am_J13_bitCount_95d88 h) ?_)
  refine tq_wi_e (fun r2 z1 h => ?_)
  exact tq_ret_i (st := []) (by decide +kernel) rfl h
def wc_X11_board_20 (Q : tq_O → tq_S → Prop)  (z : tq_S) : Prop := Q (.inr 1) z
theorem ac_X11_board_20 {K : Nat × (Nat → Int32)} {Q : tq_O → tq_S → Prop}  {z : tq_S} (h : wc_X11_board_20 Q z) : tq_T K 2 1 mm_X11_board 20 [.null, .null, .null] [] z Q := by
  unfold wc_X11_board_20 at h
  exact tq_throwS th_11_105_107 rfl (by decide +kernel) (by decide +kernel) (by decide +kernel) (by decide +kernel) (by decide +kernel) (Nat.le_of_ble_eq_true rfl) rfl (Nat.le_refl 1) h
def wm_X11_board (a1 : Int32) (a2 : Int32) (z : tq_S) (Q : tq_O → tq_S → Prop) : Prop := wm_X11_isFrom (1 : Int32) a1 (8 : Int32) z (tq_wi fun r2 z1 => ((r2 = 0 → wc_X11_board_20 Q z1) ∧ (¬ r2 = 0 → wm_X11_isFrom (1 : Int32) a2 (8 : Int32) z1 (tq_wi fun r4 z3 => ((¬ r4 = 0 → wm_X1_rectangleOf a1 a2 z3 (tq_wl fun r6 z5 => wm_X1_tell a1 a2 r6 z5 (tq_wv fun z7 => wm_X2_forget z7 (tq_wv fun z8 => wm_X1_size z8 (tq_wi fun r10 z9 => Q (.inl (some (.int r10))) z9))))) ∧ (r4 = 0 → wc_X11_board_20 Q z3))))))
theorem am_X11_board {K : Nat × (Nat → Int32)} {z : tq_S} {Q : tq_O → tq_S → Prop} {a1 : Int32} {a2 : Int32} (h : wm_X11_board a1 a2 z Q) : tq_M K 2 1 mm_X11_board [.ref 0, .int a1, .int a2] z Q := by
  unfold wm_X11_board at h
  refine tq_enter (L := [.ref 0, .int a1, .int a2]) mf_X11_board.1 rfl rfl (Nat.le_of_ble_eq_true rfl) ?_
  refine tq_k_ic (n := 1) (v := (1 : Int32)) (by decide +kernel) kc_1 ?_
  refine tq_s_iload_n (kk := 1) (by decide +kernel) rfl ?_
  refine tq_k_bi (n := 8) (v := (8 : Int32)) (by decide +kernel) kb_8 ?_
  refine tq_callS (as := [.int (1 : Int32), .int a1, .int (8 : Int32)]) (st := []) (d1 := 0) (x1 := 0) (x2 := 1) (by decide +kernel) ln_11_101 mf_X11_isFrom rfl (by decide) np_X11_isFrom rfl (Nat.le_of_ble_eq_true rfl) (by decide) (Nat.zero_add _).symm (tq_M_mono (am_X11_isFrom h) ?_)
  refine tq_wi_e (fun r2 z1 h => ?_)
  refine tq_if_eq (off := 13) (tgt := 20) (by decide +kernel) (by decide +kernel) (fun hc => ?_) (fun hc => ?_)
  · replace h := h.1 hc
    exact tq_to (tq_ld1 (tq_ld1 (tq_ld1 tq_l0))) (ac_X11_board_20 h)
  · replace h := h.2 hc
    refine tq_k_ic (n := 1) (v := (1 : Int32)) (by decide +kernel) kc_1 ?_
    refine tq_s_iload_n (kk := 2) (by decide +kernel) rfl ?_
    refine tq_k_bi (n := 8) (v := (8 : Int32)) (by decide +kernel) kb_8 ?_
    refine tq_callS (as := [.int (1 : Int32), .int a2, .int (8 : Int32)]) (st := []) (d1 := 0) (x1 := 0) (x2 := 1) (by decide +kernel) ln_11_101 mf_X11_isFrom rfl (by decide) np_X11_isFrom rfl (Nat.le_of_ble_eq_true rfl) (by decide) (Nat.zero_add _).symm (tq_M_mono (am_X11_isFrom h) ?_)
    refine tq_wi_e (fun r4 z3 h => ?_)
    refine tq_if_ne (off := 13) (tgt := 30) (by decide +kernel) (by decide +kernel) (fun hc => ?_) (fun hc => ?_)
    · replace h := h.1 hc
      refine tq_s_aload_n (kk := 0) (by decide +kernel) rfl ?_
      refine fg_11_10_0 rfl (by decide +kernel) ?_
      refine tq_s_iload_n (kk := 1) (by decide +kernel) rfl ?_
      refine tq_s_iload_n (kk := 2) (by decide +kernel) rfl ?_
      refine tq_s_iload_n (kk := 1) (by decide +kernel) rfl ?_
      refine tq_s_iload_n (kk := 2) (by decide +kernel) rfl ?_
      refine tq_callSN (as := [.int a1, .int a2]) (st := [.int a2, .int a1, .ref 1]) (d1 := 0) (x1 := 0) (x2 := 1) (by decide +kernel) ln_11_112 mf_X1_rectangleOf rfl (by decide) np_X1_rectangleOf rfl (Nat.le_of_ble_eq_true rfl) (by decide) (Nat.zero_add _).symm (tq_M_mono (am_X1_rectangleOf h) ?_)
      refine tq_wl_e (fun r6 z5 h => ?_)
      refine tq_callVN (as := [.int a1, .int a2, .long r6]) (st := []) (d1 := 0) (x1 := 0) (x2 := 1) (by decide +kernel) ln_11_116 mf_X1_tell rfl sh_1 rfl (by decide) np_X1_tell rfl (Nat.le_of_ble_eq_true rfl) (by decide) (Nat.zero_add _).symm (tq_M_mono (am_X1_tell h) ?_)
      refine tq_wv_e (fun z7 h => ?_)
      refine tq_s_aload_n (kk := 0) (by decide +kernel) rfl ?_
      refine fg_11_28_0 rfl (by decide +kernel) ?_
      refine tq_callVN (as := []) (st := []) (d1 := 0) (x1 := 0) (x2 := 1) (by decide +kernel) ln_11_120 mf_X2_forget rfl sh_8 rfl (by decide) np_X2_forget rfl (Nat.le_of_ble_eq_true rfl) (by decide) (Nat.zero_add _).symm (tq_M_mono (am_X2_forget h) ?_)
      refine tq_wv_e (fun z8 h => ?_)
      refine tq_s_aload_n (kk := 0) (by decide +kernel) rfl ?_
      refine fg_11_10_0 rfl (by decide +kernel) ?_
      refine tq_callVN (as := []) (st := []) (d1 := 1) (x1 := 0) (x2 := 1) (by decide +kernel) ln_11_123 mf_X1_size rfl sh_1 rfl (by decide) np_X1_size rfl (Nat.le_of_ble_eq_true rfl) (by decide) (Nat.zero_add _).symm (tq_M_mono (am_X1_size h) ?_)
      refine tq_wi_e (fun r10 z9 h => ?_)
      exact tq_ret_i (st := []) (by decide +kernel) rfl h
    · replace h := h.2 hc
      exact tq_to (tq_ld1 (tq_ld1 (tq_ld1 tq_l0))) (ac_X11_board_20 h)
def wm_X1_isForm (a0 : Int32) (a1 : Int32) (z : tq_S) (Q : tq_O → tq_S → Prop) : Prop := ((¬ a0 = (97 : Int32) → ((¬ a0 = (115 : Int32) → ((¬ a0 = (111 : Int32) → ((¬ a0 = (99 : Int32) → Q (.inl (some (.int (0 : Int32)))) z) ∧ (a0 = (99 : Int32) → wm_X11_isFrom (2 : Int32) a1 (8 : Int32) z (tq_wi fun r2 z1 => ((r2 = 0 → Q (.inl (some (.int (0 : Int32)))) z1) ∧ (¬ r2 = 0 → Q (.inl (some (.int (1 : Int32)))) z1)))))) ∧ (a0 = (111 : Int32) → wm_X11_isFrom (3 : Int32) a1 (8 : Int32) z (tq_wi fun r4 z3 => tq_nz r4 ∧ Q (.inl (some (.int r4))) z3)))) ∧ (a0 = (115 : Int32) → wm_X11_isFrom (1 : Int32) a1 (8 : Int32) z (tq_wi fun r6 z5 => tq_nz r6 ∧ Q (.inl (some (.int r6))) z5)))) ∧ (a0 = (97 : Int32) → wm_X11_isFrom (1 : Int32) a1 (4 : Int32) z (tq_wi fun r8 z7 => tq_nz r8 ∧ Q (.inl (some (.int r8))) z7)))
theorem am_X1_isForm {K : Nat × (Nat → Int32)} {x : Nat} {z : tq_S} {Q : tq_O → tq_S → Prop} {a0 : Int32} {a1 : Int32} (h : wm_X1_isForm a0 a1 z Q) : tq_M K 1 x mm_X1_isForm [.int a0, .int a1] z Q := by
  unfold wm_X1_isForm at h
  refine tq_enter (L := [.int a0, .int a1]) mf_X1_isForm.1 rfl rfl (Nat.le_of_ble_eq_true rfl) ?_
  refine tq_s_iload_n (kk := 0) (by decide +kernel) rfl ?_
  refine tq_k_bi (n := 97) (v := (97 : Int32)) (by decide +kernel) kb_97 ?_
  refine tq_icmp_ne (off := 10) (tgt := 13) (by decide +kernel) (by decide +kernel) (fun hc => ?_) (fun hc => ?_)
  · replace h := h.1 hc
    refine tq_s_iload_n (kk := 0) (by decide +kernel) rfl ?_
    refine tq_k_bi (n := 115) (v := (115 : Int32)) (by decide +kernel) kb_115 ?_
    refine tq_icmp_ne (off := 11) (tgt := 27) (by decide +kernel) (by decide +kernel) (fun hc => ?_) (fun hc => ?_)
    · replace h := h.1 hc
      refine tq_s_iload_n (kk := 0) (by decide +kernel) rfl ?_
      refine tq_k_bi (n := 111) (v := (111 : Int32)) (by decide +kernel) kb_111 ?_
      refine tq_icmp_ne (off := 11) (tgt := 41) (by decide +kernel) (by decide +kernel) (fun hc => ?_) (fun hc => ?_)
      · replace h := h.1 hc
        refine tq_s_iload_n (kk := 0) (by decide +kernel) rfl ?_
        refine tq_k_bi (n := 99) (v := (99 : Int32)) (by decide +kernel) kb_99 ?_
        refine tq_icmp_ne (off := 17) (tgt := 61) (by decide +kernel) (by decide +kernel) (fun hc => ?_) (fun hc => ?_)
        · replace h := h.1 hc
          refine tq_k_ic (n := 0) (v := (0 : Int32)) (by decide +kernel) kc_0 ?_
          exact tq_ret_z (st := []) (ty := .boolean) (by decide +kernel) (by decide +kernel) rfl h
        · replace h := h.2 hc
          refine tq_k_ic (n := 2) (v := (2 : Int32)) (by decide +kernel) kc_2 ?_
          refine tq_s_iload_n (kk := 1) (by decide +kernel) rfl ?_
          refine tq_k_bi (n := 8) (v := (8 : Int32)) (by decide +kernel) kb_8 ?_
          refine tq_callSN (as := [.int (2 : Int32), .int a1, .int (8 : Int32)]) (st := []) (d1 := 0) (x1 := 0) (x2 := x) (by decide +kernel) ln_1_27 mf_X11_isFrom rfl (by decide) np_X11_isFrom rfl (Nat.le_of_ble_eq_true rfl) (by decide) (Nat.zero_add _).symm (tq_M_mono (am_X11_isFrom h) ?_)
          refine tq_wi_e (fun r2 z1 h => ?_)
          refine tq_if_eq (off := 7) (tgt := 61) (by decide +kernel) (by decide +kernel) (fun hc => ?_) (fun hc => ?_)
          · replace h := h.1 hc
            refine tq_k_ic (n := 0) (v := (0 : Int32)) (by decide +kernel) kc_0 ?_
            exact tq_ret_z (st := []) (ty := .boolean) (by decide +kernel) (by decide +kernel) rfl h
          · replace h := h.2 hc
            refine tq_k_ic (n := 1) (v := (1 : Int32)) (by decide +kernel) kc_1 ?_
            refine tq_s_goto (off := 4) (tgt := 62) (by decide +kernel) (by decide +kernel) ?_
            exact tq_ret_z (st := []) (ty := .boolean) (by decide +kernel) (by decide +kernel) rfl h
      · replace h := h.2 hc
        refine tq_k_ic (n := 3) (v := (3 : Int32)) (by decide +kernel) kc_3 ?_
        refine tq_s_iload_n (kk := 1) (by decide +kernel) rfl ?_
        refine tq_k_bi (n := 8) (v := (8 : Int32)) (by decide +kernel) kb_8 ?_
        refine tq_callSN (as := [.int (3 : Int32), .int a1, .int (8 : Int32)]) (st := []) (d1 := 0) (x1 := 0) (x2 := x) (by decide +kernel) ln_1_27 mf_X11_isFrom rfl (by decide) np_X11_isFrom rfl (Nat.le_of_ble_eq_true rfl) (by decide) (Nat.zero_add _).symm (tq_M_mono (am_X11_isFrom h) ?_)
        refine tq_wi_e (fun r4 z3 h => ?_)
        exact tq_ret_z (st := []) (ty := .boolean) (by decide +kernel) (tq_nz_f h.1).1 rfl h.2
    · replace h := h.2 hc
      refine tq_k_ic (n := 1) (v := (1 : Int32)) (by decide +kernel) kc_1 ?_
      refine tq_s_iload_n (kk := 1) (by decide +kernel) rfl ?_
      refine tq_k_bi (n := 8) (v := (8 : Int32)) (by decide +kernel) kb_8 ?_
      refine tq_callSN (as := [.int (1 : Int32), .int a1, .int (8 : Int32)]) (st := []) (d1 := 0) (x1 := 0) (x2 := x) (by decide +kernel) ln_1_27 mf_X11_isFrom rfl (by decide) np_X11_isFrom rfl (Nat.le_of_ble_eq_true rfl) (by decide) (Nat.zero_add _).symm (tq_M_mono (am_X11_isFrom h) ?_)
      refine tq_wi_e (fun r6 z5 h => ?_)
      exact tq_ret_z (st := []) (ty := .boolean) (by decide +kernel) (tq_nz_f h.1).1 rfl h.2
  · replace h := h.2 hc
    refine tq_k_ic (n := 1) (v := (1 : Int32)) (by decide +kernel) kc_1 ?_
    refine tq_s_iload_n (kk := 1) (by decide +kernel) rfl ?_
    refine tq_k_ic (n := 4) (v := (4 : Int32)) (by decide +kernel) kc_4 ?_
    refine tq_callSN (as := [.int (1 : Int32), .int a1, .int (4 : Int32)]) (st := []) (d1 := 0) (x1 := 0) (x2 := x) (by decide +kernel) ln_1_27 mf_X11_isFrom rfl (by decide) np_X11_isFrom rfl (Nat.le_of_ble_eq_true rfl) (by decide) (Nat.zero_add _).symm (tq_M_mono (am_X11_isFrom h) ?_)
    refine tq_wi_e (fun r8 z7 h => ?_)
    exact tq_ret_z (st := []) (ty := .boolean) (by decide +kernel) (tq_nz_f h.1).1 rfl h.2
def wc_X1_isInForm_22 (Q : tq_O → tq_S → Prop) (a1 : Int32) (a2 : Int32) (s0 : Int32) (z : tq_S) : Prop := wm_X11_isFrom s0 a2 ((((2 : Int32) * a1) - (1 : Int32)) - s0) z (tq_wi fun r102 z101 => tq_nz r102 ∧ Q (.inl (some (.int r102))) z101)
theorem ac_X1_isInForm_22 {K : Nat × (Nat → Int32)} {x : Nat} {Q : tq_O → tq_S → Prop} {a1 : Int32} {a2 : Int32} {s0 : Int32} {z : tq_S} (h : wc_X1_isInForm_22 Q a1 a2 s0 z) : tq_T K 1 x mm_X1_isInForm 22 [.null, .int a1, .int a2, .null, .null] [.int s0] z Q := by
  unfold wc_X1_isInForm_22 at h
  refine tq_s_istore (i := 4) (L9 := [.null, .int a1, .int a2, .null, .int s0]) (by decide +kernel) (by decide) rfl ?_
  refine tq_s_iload (i := 4) (by decide +kernel) rfl ?_
  refine tq_s_iload_n (kk := 2) (by decide +kernel) rfl ?_
  refine tq_k_ic (n := 2) (v := (2 : Int32)) (by decide +kernel) kc_2 ?_
  refine tq_s_iload_n (kk := 1) (by decide +kernel) rfl ?_
  refine tq_s_imul (by decide +kernel) ?_
  refine tq_k_ic (n := 1) (v := (1 : Int32)) (by decide +kernel) kc_1 ?_
  refine tq_s_isub (by decide +kernel) ?_
  refine tq_s_iload (i := 4) (by decide +kernel) rfl ?_
  refine tq_s_isub (by decide +kernel) ?_
  refine tq_callSN (as := [.int s0, .int a2, .int ((((2 : Int32) * a1) - (1 : Int32)) - s0)]) (st := []) (d1 := 0) (x1 := 0) (x2 := x) (by decide +kernel) ln_1_27 mf_X11_isFrom rfl (by decide) np_X11_isFrom rfl (Nat.le_of_ble_eq_true rfl) (by decide) (Nat.zero_add _).symm (tq_M_mono (am_X11_isFrom h) ?_)
  refine tq_wi_e (fun r102 z101 h => ?_)
  exact tq_ret_z (st := []) (ty := .boolean) (by decide +kernel) (tq_nz_f h.1).1 rfl h.2
def wc_X1_isInForm_98 (Q : tq_O → tq_S → Prop) (a1 : Int32) (a2 : Int32) (a3 : Int32) (z : tq_S) : Prop := ((¬ a2 = (a1 - (1 : Int32)) → Q (.inl (some (.int (1 : Int32)))) z) ∧ (a2 = (a1 - (1 : Int32)) → ((a3 = (a1 - (1 : Int32)) → Q (.inl (some (.int (0 : Int32)))) z) ∧ (¬ a3 = (a1 - (1 : Int32)) → Q (.inl (some (.int (1 : Int32)))) z))))
theorem ac_X1_isInForm_98 {K : Nat × (Nat → Int32)} {x : Nat} {Q : tq_O → tq_S → Prop} {a1 : Int32} {a2 : Int32} {a3 : Int32} {z : tq_S} (h : wc_X1_isInForm_98 Q a1 a2 a3 z) : tq_T K 1 x mm_X1_isInForm 98 [.null, .int a1, .int a2, .int a3, .null] [] z Q := by
  unfold wc_X1_isInForm_98 at h
  refine tq_s_iload_n (kk := 2) (by decide +kernel) rfl ?_
  refine tq_s_iload_n (kk := 1) (by decide +kernel) rfl ?_
  refine tq_k_ic (n := 1) (v := (1 : Int32)) (by decide +kernel) kc_1 ?_
  refine tq_s_isub (by decide +kernel) ?_
  refine tq_icmp_ne (off := 10) (tgt := 112) (by decide +kernel) (by decide +kernel) (fun hc => ?_) (fun hc => ?_)
  · replace h := h.1 hc
    refine tq_k_ic (n := 1) (v := (1 : Int32)) (by decide +kernel) kc_1 ?_
    refine tq_s_goto (off := 4) (tgt := 117) (by decide +kernel) (by decide +kernel) ?_
    exact tq_ret_z (st := []) (ty := .boolean) (by decide +kernel) (by decide +kernel) rfl h
  · replace h := h.2 hc
    refine tq_s_iload_n (kk := 3) (by decide +kernel) rfl ?_
    refine tq_s_iload_n (kk := 1) (by decide +kernel) rfl ?_
    refine tq_k_ic (n := 1) (v := (1 : Int32)) (by decide +kernel) kc_1 ?_
    refine tq_s_isub (by decide +kernel) ?_
    refine tq_icmp_eq (off := 7) (tgt := 116) (by decide +kernel) (by decide +kernel) (fun hc => ?_) (fun hc => ?_)
    · replace h := h.1 hc
      refine tq_k_ic (n := 0) (v := (0 : Int32)) (by decide +kernel) kc_0 ?_
      exact tq_ret_z (st := []) (ty := .boolean) (by decide +kernel) (by decide +kernel) rfl h
    · replace h := h.2 hc
      refine tq_k_ic (n := 1) (v := (1 : Int32)) (by decide +kernel) kc_1 ?_
      refine tq_s_goto (off := 4) (tgt := 117) (by decide +kernel) (by decide +kernel) ?_
      exact tq_ret_z (st := []) (ty := .boolean) (by decide +kernel) (by decide +kernel) rfl h
def wm_X1_isInForm (a0 : Int32) (a1 : Int32) (a2 : Int32) (a3 : Int32) (z : tq_S) (Q : tq_O → tq_S → Prop) : Prop := ((¬ a0 = (97 : Int32) → ((¬ a0 = (115 : Int32) → ((¬ a0 = (111 : Int32) → ((¬ a2 = 0 → wc_X1_isInForm_98 Q a1 a2 a3 z) ∧ (a2 = 0 → ((a3 = 0 → Q (.inl (some (.int (0 : Int32)))) z) ∧ (¬ a3 = 0 → wc_X1_isInForm_98 Q a1 a2 a3 z))))) ∧ (a0 = (111 : Int32) → ((a2 = 0 → Q (.inl (some (.int (1 : Int32)))) z) ∧ (¬ a2 = 0 → ((a3 = 0 → Q (.inl (some (.int (1 : Int32)))) z) ∧ (¬ a3 = 0 → ((a2 = (a1 - (1 : Int32)) → Q (.inl (some (.int (1 : Int32)))) z) ∧ (¬ a2 = (a1 - (1 : Int32)) → ((¬ a3 = (a1 - (1 : Int32)) → Q (.inl (some (.int (0 : Int32)))) z) ∧ (a3 = (a1 - (1 : Int32)) → Q (.inl (some (.int (1 : Int32)))) z))))))))))) ∧ (a0 = (115 : Int32) → ((a3 < a2 → Q (.inl (some (.int (0 : Int32)))) z) ∧ (¬ a3 < a2 → Q (.inl (some (.int (1 : Int32)))) z))))) ∧ (a0 = (97 : Int32) → ((a1 ≤ a3 → wc_X1_isInForm_22 Q a1 a2 (a3 - a1) z) ∧ (¬ a1 ≤ a3 → wc_X1_isInForm_22 Q a1 a2 ((a1 - (1 : Int32)) - a3) z))))
theorem am_X1_isInForm {K : Nat × (Nat → Int32)} {x : Nat} {z : tq_S} {Q : tq_O → tq_S → Prop} {a0 : Int32} {a1 : Int32} {a2 : Int32} {a3 : Int32} (h : wm_X1_isInForm a0 a1 a2 a3 z Q) : tq_M K 1 x mm_X1_isInForm [.int a0, .int a1, .int a2, .int a3] z Q := by
  unfold wm_X1_isInForm at h
  refine tq_enter (L := [.int a0, .int a1, .int a2, .int a3, .null]) mf_X1_isInForm.1 rfl rfl (Nat.le_of_ble_eq_true rfl) ?_
  refine tq_s_iload_n (kk := 0) (by decide +kernel) rfl ?_
  refine tq_k_bi (n := 97) (v := (97 : Int32)) (by decide +kernel) kb_97 ?_
  refine tq_icmp_ne (off := 36) (tgt := 39) (by decide +kernel) (by decide +kernel) (fun hc => ?_) (fun hc => ?_)
  · replace h := h.1 hc
    refine tq_s_iload_n (kk := 0) (by decide +kernel) rfl ?_
    refine tq_k_bi (n := 115) (v := (115 : Int32)) (by decide +kernel) kb_115 ?_
    refine tq_icmp_ne (off := 14) (tgt := 56) (by decide +kernel) (by decide +kernel) (fun hc => ?_) (fun hc => ?_)
    · replace h := h.1 hc
      refine tq_s_iload_n (kk := 0) (by decide +kernel) rfl ?_
      refine tq_k_bi (n := 111) (v := (111 : Int32)) (by decide +kernel) kb_111 ?_
      refine tq_icmp_ne (off := 31) (tgt := 90) (by decide +kernel) (by decide +kernel) (fun hc => ?_) (fun hc => ?_)
      · replace h := h.1 hc
        refine tq_s_iload_n (kk := 2) (by decide +kernel) rfl ?_
        refine tq_if_ne (off := 7) (tgt := 98) (by decide +kernel) (by decide +kernel) (fun hc => ?_) (fun hc => ?_)
        · replace h := h.1 hc
          exact tq_to (tq_ld1 (tq_lk1 (tq_lk1 (tq_lk1 (tq_lk1 tq_l0))))) (ac_X1_isInForm_98 h)
        · replace h := h.2 hc
          refine tq_s_iload_n (kk := 3) (by decide +kernel) rfl ?_
          refine tq_if_eq (off := 21) (tgt := 116) (by decide +kernel) (by decide +kernel) (fun hc => ?_) (fun hc => ?_)
          · replace h := h.1 hc
            refine tq_k_ic (n := 0) (v := (0 : Int32)) (by decide +kernel) kc_0 ?_
            exact tq_ret_z (st := []) (ty := .boolean) (by decide +kernel) (by decide +kernel) rfl h
          · replace h := h.2 hc
            exact tq_to (tq_ld1 (tq_lk1 (tq_lk1 (tq_lk1 (tq_lk1 tq_l0))))) (ac_X1_isInForm_98 h)
      · replace h := h.2 hc
        refine tq_s_iload_n (kk := 2) (by decide +kernel) rfl ?_
        refine tq_if_eq (off := 21) (tgt := 84) (by decide +kernel) (by decide +kernel) (fun hc => ?_) (fun hc => ?_)
        · replace h := h.1 hc
          refine tq_k_ic (n := 1) (v := (1 : Int32)) (by decide +kernel) kc_1 ?_
          refine tq_s_goto (off := 4) (tgt := 89) (by decide +kernel) (by decide +kernel) ?_
          exact tq_ret_z (st := []) (ty := .boolean) (by decide +kernel) (by decide +kernel) rfl h
        · replace h := h.2 hc
          refine tq_s_iload_n (kk := 3) (by decide +kernel) rfl ?_
          refine tq_if_eq (off := 17) (tgt := 84) (by decide +kernel) (by decide +kernel) (fun hc => ?_) (fun hc => ?_)
          · replace h := h.1 hc
            refine tq_k_ic (n := 1) (v := (1 : Int32)) (by decide +kernel) kc_1 ?_
            refine tq_s_goto (off := 4) (tgt := 89) (by decide +kernel) (by decide +kernel) ?_
            exact tq_ret_z (st := []) (ty := .boolean) (by decide +kernel) (by decide +kernel) rfl h
          · replace h := h.2 hc
            refine tq_s_iload_n (kk := 2) (by decide +kernel) rfl ?_
            refine tq_s_iload_n (kk := 1) (by decide +kernel) rfl ?_
            refine tq_k_ic (n := 1) (v := (1 : Int32)) (by decide +kernel) kc_1 ?_
            refine tq_s_isub (by decide +kernel) ?_
            refine tq_icmp_eq (off := 10) (tgt := 84) (by decide +kernel) (by decide +kernel) (fun hc => ?_) (fun hc => ?_)
            · replace h := h.1 hc
              refine tq_k_ic (n := 1) (v := (1 : Int32)) (by decide +kernel) kc_1 ?_
              refine tq_s_goto (off := 4) (tgt := 89) (by decide +kernel) (by decide +kernel) ?_
              exact tq_ret_z (st := []) (ty := .boolean) (by decide +kernel) (by decide +kernel) rfl h
            · replace h := h.2 hc
              refine tq_s_iload_n (kk := 3) (by decide +kernel) rfl ?_
              refine tq_s_iload_n (kk := 1) (by decide +kernel) rfl ?_
              refine tq_k_ic (n := 1) (v := (1 : Int32)) (by decide +kernel) kc_1 ?_
              refine tq_s_isub (by decide +kernel) ?_
              refine tq_icmp_ne (off := 7) (tgt := 88) (by decide +kernel) (by decide +kernel) (fun hc => ?_) (fun hc => ?_)
              · replace h := h.1 hc
                refine tq_k_ic (n := 0) (v := (0 : Int32)) (by decide +kernel) kc_0 ?_
                exact tq_ret_z (st := []) (ty := .boolean) (by decide +kernel) (by decide +kernel) rfl h
              · replace h := h.2 hc
                refine tq_k_ic (n := 1) (v := (1 : Int32)) (by decide +kernel) kc_1 ?_
                refine tq_s_goto (off := 4) (tgt := 89) (by decide +kernel) (by decide +kernel) ?_
                exact tq_ret_z (st := []) (ty := .boolean) (by decide +kernel) (by decide +kernel) rfl h
    · replace h := h.2 hc
      refine tq_s_iload_n (kk := 2) (by decide +kernel) rfl ?_
      refine tq_s_iload_n (kk := 3) (by decide +kernel) rfl ?_
      refine tq_icmp_gt (off := 7) (tgt := 54) (by decide +kernel) (by decide +kernel) (fun hc => ?_) (fun hc => ?_)
      · replace h := h.1 hc
        refine tq_k_ic (n := 0) (v := (0 : Int32)) (by decide +kernel) kc_0 ?_
        exact tq_ret_z (st := []) (ty := .boolean) (by decide +kernel) (by decide +kernel) rfl h
      · replace h := h.2 hc
        refine tq_k_ic (n := 1) (v := (1 : Int32)) (by decide +kernel) kc_1 ?_
        refine tq_s_goto (off := 4) (tgt := 55) (by decide +kernel) (by decide +kernel) ?_
        exact tq_ret_z (st := []) (ty := .boolean) (by decide +kernel) (by decide +kernel) rfl h
  · replace h := h.2 hc
    refine tq_s_iload_n (kk := 3) (by decide +kernel) rfl ?_
    refine tq_s_iload_n (kk := 1) (by decide +kernel) rfl ?_
    refine tq_icmp_ge (off := 11) (tgt := 19) (by decide +kernel) (by decide +kernel) (fun hc => ?_) (fun hc => ?_)
    · replace h := h.1 hc
      refine tq_s_iload_n (kk := 3) (by decide +kernel) rfl ?_
      refine tq_s_iload_n (kk := 1) (by decide +kernel) rfl ?_
      refine tq_s_isub (by decide +kernel) ?_
      exact tq_to (tq_ld1 (tq_lk1 (tq_lk1 (tq_ld1 (tq_lk1 tq_l0))))) (ac_X1_isInForm_22 h)
    · replace h := h.2 hc
      refine tq_s_iload_n (kk := 1) (by decide +kernel) rfl ?_
      refine tq_k_ic (n := 1) (v := (1 : Int32)) (by decide +kernel) kc_1 ?_
      refine tq_s_isub (by decide +kernel) ?_
      refine tq_s_iload_n (kk := 3) (by decide +kernel) rfl ?_
      refine tq_s_isub (by decide +kernel) ?_
      refine tq_s_goto (off := 6) (tgt := 22) (by decide +kernel) (by decide +kernel) ?_
      exact tq_to (tq_ld1 (tq_lk1 (tq_lk1 (tq_ld1 (tq_lk1 tq_l0))))) (ac_X1_isInForm_22 h)
def wm_X1_bit (a0 : Int32) (a1 : Int32) (z : tq_S) (Q : tq_O → tq_S → Prop) : Prop := Q (.inl (some (.long ((1 : Int64) <<< ((Int32.toInt64 (((8 : Int32) * a1) + a0)) &&& 63))))) z
theorem am_X1_bit {K : Nat × (Nat → Int32)} {x : Nat} {z : tq_S} {Q : tq_O → tq_S → Prop} {a0 : Int32} {a1 : Int32} (h : wm_X1_bit a0 a1 z Q) : tq_M K 0 x mm_X1_bit [.int a0, .int a1] z Q := by
  unfold wm_X1_bit at h
  refine tq_enter (L := [.int a0, .int a1]) mf_X1_bit.1 rfl rfl (Nat.le_of_ble_eq_true rfl) ?_
  refine tq_k_lc (n := 1) (v := (1 : Int64)) (by decide +kernel) (by decide +kernel) ?_
  refine tq_k_bi (n := 8) (v := (8 : Int32)) (by decide +kernel) kb_8 ?_
  refine tq_s_iload_n (kk := 1) (by decide +kernel) rfl ?_
  refine tq_s_imul (by decide +kernel) ?_
  refine tq_s_iload_n (kk := 0) (by decide +kernel) rfl ?_
  refine tq_s_iadd (by decide +kernel) ?_
  refine tq_s_lshl (by decide +kernel) ?_
  exact tq_ret_l (st := []) (by decide +kernel) rfl h
def wc_X1_formCells_70 (B19 : Int64 → Int32 → tq_S → Prop) (B35 : Int64 → Int32 → tq_S → Prop) (Q : tq_O → tq_S → Prop) (a0 : Int32) (a1 : Int32) (a2 : Int32) (a3 : Int64) (a5 : Int32) (a6 : Int32) (z : tq_S) : Prop := ∀ v101 : Int32, v101 = a6 + (1 : Int32) → B35 a3 v101 z
theorem ac_X1_formCells_70 {K : Nat × (Nat → Int32)} {x : Nat} {Q : tq_O → tq_S → Prop} {B19 : Int64 → Int32 → tq_S → Prop} {B35 : Int64 → Int32 → tq_S → Prop} {a0 : Int32} {a1 : Int32} {a2 : Int32} {a3 : Int64} {a5 : Int32} {a6 : Int32} {z : tq_S} (hB19 : ∀ (b3 : Int64) (b5 : Int32) (z : tq_S), B19 b3 b5 z → tq_T K 2 x mm_X1_formCells 19 [.int a0, .int a1, .int a2, .long b3, .null, .int b5, .null] [] z Q) (hB35 : ∀ (b3 : Int64) (b6 : Int32) (z : tq_S), B35 b3 b6 z → tq_T K 2 x mm_X1_formCells 35 [.int a0, .int a1, .int a2, .long b3, .null, .int a5, .int b6] [] z Q) (h : wc_X1_formCells_70 B19 B35 Q a0 a1 a2 a3 a5 a6 z) : tq_T K 2 x mm_X1_formCells 70 [.int a0, .int a1, .int a2, .long a3, .null, .int a5, .int a6] [] z Q := by
  unfold wc_X1_formCells_70 at h
  refine tq_g_iinc (i := 6) (fun v101 => [.int a0, .int a1, .int a2, .long a3, .null, .int a5, .int v101]) (by decide +kernel) rfl (1 : Int32) kc_1 (fun _ => rfl) (fun v101 ev101 => ?_)
  replace h := h v101 ev101
  refine tq_s_goto (off := -38) (tgt := 35) (by decide +kernel) (by decide +kernel) ?_
  exact hB35 _ _ _ h
def wc_X1_formCells_76 (B19 : Int64 → Int32 → tq_S → Prop) (Q : tq_O → tq_S → Prop) (a0 : Int32) (a1 : Int32) (a2 : Int32) (a3 : Int64) (a5 : Int32) (z : tq_S) : Prop := ∀ v101 : Int32, v101 = a5 + (1 : Int32) → B19 a3 v101 z
theorem ac_X1_formCells_76 {K : Nat × (Nat → Int32)} {x : Nat} {Q : tq_O → tq_S → Prop} {B19 : Int64 → Int32 → tq_S → Prop} {a0 : Int32} {a1 : Int32} {a2 : Int32} {a3 : Int64} {a5 : Int32} {z : tq_S} (hB19 : ∀ (b3 : Int64) (b5 : Int32) (z : tq_S), B19 b3 b5 z → tq_T K 2 x mm_X1_formCells 19 [.int a0, .int a1, .int a2, .long b3, .null, .int b5, .null] [] z Q) (h : wc_X1_formCells_76 B19 Q a0 a1 a2 a3 a5 z) : tq_T K 2 x mm_X1_formCells 76 [.int a0, .int a1, .int a2, .long a3, .null, .int a5, .null] [] z Q := by
  unfold wc_X1_formCells_76 at h
  refine tq_g_iinc (i := 5) (fun v101 => [.int a0, .int a1, .int a2, .long a3, .null, .int v101, .null]) (by decide +kernel) rfl (1 : Int32) kc_1 (fun _ => rfl) (fun v101 ev101 => ?_)
  replace h := h v101 ev101
  refine tq_s_goto (off := -60) (tgt := 19) (by decide +kernel) (by decide +kernel) ?_
  exact hB19 _ _ _ h
def wb_X1_formCells_35 (B19 : Int64 → Int32 → tq_S → Prop) (B35 : Int64 → Int32 → tq_S → Prop) (Q : tq_O → tq_S → Prop) (a0 : Int32) (a1 : Int32) (a2 : Int32) (a3 : Int64) (a5 : Int32) (a6 : Int32) (z : tq_S) : Prop := ((a2 ≤ a6 → wc_X1_formCells_76 B19 Q a0 a1 a2 a3 a5 z) ∧ (¬ a2 ≤ a6 → (((8 : Int32) ≤ a6 → wc_X1_formCells_76 B19 Q a0 a1 a2 a3 a5 z) ∧ (¬ (8 : Int32) ≤ a6 → wm_X1_isInForm a0 a1 a6 a5 z (tq_wi fun r102 z101 => ((r102 = 0 → wc_X1_formCells_70 B19 B35 Q a0 a1 a2 a3 a5 a6 z101) ∧ (¬ r102 = 0 → wm_X1_bit a6 a5 z101 (tq_wl fun r104 z103 => ∀ v105 : Int64, v105 = (a3 ||| r104) → wc_X1_formCells_70 B19 B35 Q a0 a1 a2 v105 a5 a6 z103))))))))
def wc_X1_formCells_35 (B19 : Int64 → Int32 → tq_S → Prop) (Q : tq_O → tq_S → Prop) (a0 : Int32) (a1 : Int32) (a2 : Int32) (a3 : Int64) (a5 : Int32) (a6 : Int32) (z : tq_S) : Prop := tq_lp (σ := Int64 × Int32 × tq_S) (fun B s => wb_X1_formCells_35 B19 (fun b3 b6 z => B (b3, b6, z)) Q a0 a1 a2 s.1 a5 s.2.1 s.2.2) (a3, a6, z)
theorem ab_X1_formCells_35 {K : Nat × (Nat → Int32)} {x : Nat} {Q : tq_O → tq_S → Prop} {B19 : Int64 → Int32 → tq_S → Prop} {B35 : Int64 → Int32 → tq_S → Prop} {a0 : Int32} {a1 : Int32} {a2 : Int32} {a3 : Int64} {a5 : Int32} {a6 : Int32} {z : tq_S} (hB19 : ∀ (b3 : Int64) (b5 : Int32) (z : tq_S), B19 b3 b5 z → tq_T K 2 x mm_X1_formCells 19 [.int a0, .int a1, .int a2, .long b3, .null, .int b5, .null] [] z Q) (hB35 : ∀ (b3 : Int64) (b6 : Int32) (z : tq_S), B35 b3 b6 z → tq_T K 2 x mm_X1_formCells 35 [.int a0, .int a1, .int a2, .long b3, .null, .int a5, .int b6] [] z Q) (h : wb_X1_formCells_35 B19 B35 Q a0 a1 a2 a3 a5 a6 z) : tq_T K 2 x mm_X1_formCells 35 [.int a0, .int a1, .int a2, .long a3, .null, .int a5, .int a6] [] z Q := by
  unfold wb_X1_formCells_35 at h
  refine tq_s_iload (i := 6) (by decide +kernel) rfl ?_
  refine tq_s_iload_n (kk := 2) (by decide +kernel) rfl ?_
  refine tq_icmp_ge (off := 38) (tgt := 76) (by decide +kernel) (by decide +kernel) (fun hc => ?_) (fun hc => ?_)
  · replace h := h.1 hc
    exact tq_to (tq_lk1 (tq_lk1 (tq_lk1 (tq_lk1 (tq_lk1 (tq_lk1 (tq_ld1 tq_l0))))))) (ac_X1_formCells_76 hB19 h)
  · replace h := h.2 hc
    refine tq_s_iload (i := 6) (by decide +kernel) rfl ?_
    refine tq_k_bi (n := 8) (v := (8 : Int32)) (by decide +kernel) kb_8 ?_
    refine tq_icmp_ge (off := 31) (tgt := 76) (by decide +kernel) (by decide +kernel) (fun hc => ?_) (fun hc => ?_)
    · replace h := h.1 hc
      exact tq_to (tq_lk1 (tq_lk1 (tq_lk1 (tq_lk1 (tq_lk1 (tq_lk1 (tq_ld1 tq_l0))))))) (ac_X1_formCells_76 hB19 h)
    · replace h := h.2 hc
      refine tq_s_iload_n (kk := 0) (by decide +kernel) rfl ?_
      refine tq_s_iload_n (kk := 1) (by decide +kernel) rfl ?_
      refine tq_s_iload (i := 6) (by decide +kernel) rfl ?_
      refine tq_s_iload (i := 5) (by decide +kernel) rfl ?_
      refine tq_callS (as := [.int a0, .int a1, .int a6, .int a5]) (st := []) (d1 := 1) (x1 := 0) (x2 := x) (by decide +kernel) ln_1_33 mf_X1_isInForm rfl (by decide) np_X1_isInForm rfl (Nat.le_of_ble_eq_true rfl) (by decide) (Nat.zero_add _).symm (tq_M_mono (am_X1_isInForm h) ?_)
      refine tq_wi_e (fun r102 z101 h => ?_)
      refine tq_if_eq (off := 13) (tgt := 70) (by decide +kernel) (by decide +kernel) (fun hc => ?_) (fun hc => ?_)
      · replace h := h.1 hc
        exact ac_X1_formCells_70 hB19 hB35 h
      · replace h := h.2 hc
        refine tq_s_lload_n (kk := 3) (by decide +kernel) rfl ?_
        refine tq_s_iload (i := 6) (by decide +kernel) rfl ?_
        refine tq_s_iload (i := 5) (by decide +kernel) rfl ?_
        refine tq_callS (as := [.int a6, .int a5]) (st := [.long a3]) (d1 := 0) (x1 := 0) (x2 := x) (by decide +kernel) ln_1_37 mf_X1_bit rfl (by decide) np_X1_bit rfl (Nat.le_of_ble_eq_true rfl) (by decide) (Nat.zero_add _).symm (tq_M_mono (am_X1_bit h) ?_)
        refine tq_wl_e (fun r104 z103 h => ?_)
        refine tq_s_lor (by decide +kernel) ?_
        refine tq_g_lstore_n (kk := 3) (fun v105 => [.int a0, .int a1, .int a2, .long v105, .null, .int a5, .int a6]) (by decide +kernel) (by decide) (fun _ => rfl) (fun v105 ev105 => ?_)
        replace h := h v105 ev105
        exact ac_X1_formCells_70 hB19 hB35 h
theorem ac_X1_formCells_35 {K : Nat × (Nat → Int32)} {x : Nat} {Q : tq_O → tq_S → Prop} {B19 : Int64 → Int32 → tq_S → Prop} {a0 : Int32} {a1 : Int32} {a2 : Int32} {a3 : Int64} {a5 : Int32} {a6 : Int32} {z : tq_S} (hB19 : ∀ (b3 : Int64) (b5 : Int32) (z : tq_S), B19 b3 b5 z → tq_T K 2 x mm_X1_formCells 19 [.int a0, .int a1, .int a2, .long b3, .null, .int b5, .null] [] z Q) (h : wc_X1_formCells_35 B19 Q a0 a1 a2 a3 a5 a6 z) : tq_T K 2 x mm_X1_formCells 35 [.int a0, .int a1, .int a2, .long a3, .null, .int a5, .int a6] [] z Q :=
  tq_lp_T (σ := Int64 × Int32 × tq_S) (s := (a3, a6, z)) (G := fun s => tq_T K 2 x mm_X1_formCells 35 [.int a0, .int a1, .int a2, .long s.1, .null, .int a5, .int s.2.1] [] s.2.2 Q) (fun B hB s h => ab_X1_formCells_35 hB19 (fun b3 b6 z h => hB (b3, b6, z) h) h) h
def wb_X1_formCells_19 (B19 : Int64 → Int32 → tq_S → Prop) (Q : tq_O → tq_S → Prop) (a0 : Int32) (a1 : Int32) (a2 : Int32) (a3 : Int64) (a5 : Int32) (z : tq_S) : Prop := ((a2 ≤ a5 → Q (.inl (some (.long a3))) z) ∧ (¬ a2 ≤ a5 → (((8 : Int32) ≤ a5 → Q (.inl (some (.long a3))) z) ∧ (¬ (8 : Int32) ≤ a5 → wc_X1_formCells_35 B19 Q a0 a1 a2 a3 a5 (0 : Int32) z))))
def wc_X1_formCells_19 (Q : tq_O → tq_S → Prop) (a0 : Int32) (a1 : Int32) (a2 : Int32) (a3 : Int64) (a5 : Int32) (z : tq_S) : Prop := tq_lp (σ := Int64 × Int32 × tq_S) (fun B s => wb_X1_formCells_19 (fun b3 b5 z => B (b3, b5, z)) Q a0 a1 a2 s.1 s.2.1 s.2.2) (a3, a5, z)
theorem ab_X1_formCells_19 {K : Nat × (Nat → Int32)} {x : Nat} {Q : tq_O → tq_S → Prop} {B19 : Int64 → Int32 → tq_S → Prop} {a0 : Int32} {a1 : Int32} {a2 : Int32} {a3 : Int64} {a5 : Int32} {z : tq_S} (hB19 : ∀ (b3 : Int64) (b5 : Int32) (z : tq_S), B19 b3 b5 z → tq_T K 2 x mm_X1_formCells 19 [.int a0, .int a1, .int a2, .long b3, .null, .int b5, .null] [] z Q) (h : wb_X1_formCells_19 B19 Q a0 a1 a2 a3 a5 z) : tq_T K 2 x mm_X1_formCells 19 [.int a0, .int a1, .int a2, .long a3, .null, .int a5, .null] [] z Q := by
  unfold wb_X1_formCells_19 at h
  refine tq_s_iload (i := 5) (by decide +kernel) rfl ?_
  refine tq_s_iload_n (kk := 2) (by decide +kernel) rfl ?_
  refine tq_icmp_ge (off := 60) (tgt := 82) (by decide +kernel) (by decide +kernel) (fun hc => ?_) (fun hc => ?_)
  · replace h := h.1 hc
    refine tq_s_lload_n (kk := 3) (by decide +kernel) rfl ?_
    exact tq_ret_l (st := []) (by decide +kernel) rfl h
  · replace h := h.2 hc
    refine tq_s_iload (i := 5) (by decide +kernel) rfl ?_
    refine tq_k_bi (n := 8) (v := (8 : Int32)) (by decide +kernel) kb_8 ?_
    refine tq_icmp_ge (off := 53) (tgt := 82) (by decide +kernel) (by decide +kernel) (fun hc => ?_) (fun hc => ?_)
    · replace h := h.1 hc
      refine tq_s_lload_n (kk := 3) (by decide +kernel) rfl ?_
      exact tq_ret_l (st := []) (by decide +kernel) rfl h
    · replace h := h.2 hc
      refine tq_k_ic (n := 0) (v := (0 : Int32)) (by decide +kernel) kc_0 ?_
      refine tq_s_istore (i := 6) (L9 := [.int a0, .int a1, .int a2, .long a3, .null, .int a5, .int (0 : Int32)]) (by decide +kernel) (by decide) rfl ?_
      exact ac_X1_formCells_35 hB19 h
theorem ac_X1_formCells_19 {K : Nat × (Nat → Int32)} {x : Nat} {Q : tq_O → tq_S → Prop} {a0 : Int32} {a1 : Int32} {a2 : Int32} {a3 : Int64} {a5 : Int32} {z : tq_S} (h : wc_X1_formCells_19 Q a0 a1 a2 a3 a5 z) : tq_T K 2 x mm_X1_formCells 19 [.int a0, .int a1, .int a2, .long a3, .null, .int a5, .null] [] z Q :=
  tq_lp_T (σ := Int64 × Int32 × tq_S) (s := (a3, a5, z)) (G := fun s => tq_T K 2 x mm_X1_formCells 19 [.int a0, .int a1, .int a2, .long s.1, .null, .int s.2.1, .null] [] s.2.2 Q) (fun B hB s h => ab_X1_formCells_19 (fun b3 b5 z h => hB (b3, b5, z) h) h) h
def wc_X1_formCells_13 (Q : tq_O → tq_S → Prop) (a0 : Int32) (a1 : Int32) (s0 : Int32) (z : tq_S) : Prop := wc_X1_formCells_19 Q a0 a1 s0 (0 : Int64) (0 : Int32) z
theorem ac_X1_formCells_13 {K : Nat × (Nat → Int32)} {x : Nat} {Q : tq_O → tq_S → Prop} {a0 : Int32} {a1 : Int32} {s0 : Int32} {z : tq_S} (h : wc_X1_formCells_13 Q a0 a1 s0 z) : tq_T K 2 x mm_X1_formCells 13 [.int a0, .int a1, .null, .null, .null, .null, .null] [.int s0] z Q := by
  unfold wc_X1_formCells_13 at h
  refine tq_s_istore_n (kk := 2) (L9 := [.int a0, .int a1, .int s0, .null, .null, .null, .null]) (by decide +kernel) (by decide) rfl ?_
  refine tq_k_lc (n := 0) (v := (0 : Int64)) (by decide +kernel) (by decide +kernel) ?_
  refine tq_s_lstore_n (kk := 3) (L9 := [.int a0, .int a1, .int s0, .long (0 : Int64), .null, .null, .null]) (by decide +kernel) (by decide) rfl ?_
  refine tq_k_ic (n := 0) (v := (0 : Int32)) (by decide +kernel) kc_0 ?_
  refine tq_s_istore (i := 5) (L9 := [.int a0, .int a1, .int s0, .long (0 : Int64), .null, .int (0 : Int32), .null]) (by decide +kernel) (by decide) rfl ?_
  exact ac_X1_formCells_19 h
def wm_X1_formCells (a0 : Int32) (a1 : Int32) (z : tq_S) (Q : tq_O → tq_S → Prop) : Prop := ((¬ a0 = (97 : Int32) → wc_X1_formCells_13 Q a0 a1 a1 z) ∧ (a0 = (97 : Int32) → wc_X1_formCells_13 Q a0 a1 ((2 : Int32) * a1) z))
theorem am_X1_formCells {K : Nat × (Nat → Int32)} {x : Nat} {z : tq_S} {Q : tq_O → tq_S → Prop} {a0 : Int32} {a1 : Int32} (h : wm_X1_formCells a0 a1 z Q) : tq_M K 2 x mm_X1_formCells [.int a0, .int a1] z Q := by
  unfold wm_X1_formCells at h
  refine tq_enter (L := [.int a0, .int a1, .null, .null, .null, .null, .null]) mf_X1_formCells.1 rfl rfl (Nat.le_of_ble_eq_true rfl) ?_
  refine tq_s_iload_n (kk := 0) (by decide +kernel) rfl ?_
  refine tq_k_bi (n := 97) (v := (97 : Int32)) (by decide +kernel) kb_97 ?_
  refine tq_icmp_ne (off := 9) (tgt := 12) (by decide +kernel) (by decide +kernel) (fun hc => ?_) (fun hc => ?_)
  · replace h := h.1 hc
    refine tq_s_iload_n (kk := 1) (by decide +kernel) rfl ?_
    exact ac_X1_formCells_13 h
  · replace h := h.2 hc
    refine tq_k_ic (n := 2) (v := (2 : Int32)) (by decide +kernel) kc_2 ?_
    refine tq_s_iload_n (kk := 1) (by decide +kernel) rfl ?_
    refine tq_s_imul (by decide +kernel) ?_
    refine tq_s_goto (off := 4) (tgt := 13) (by decide +kernel) (by decide +kernel) ?_
    exact ac_X1_formCells_13 h
def wc_X11_form_31 (Q : tq_O → tq_S → Prop) (a1 : Int32) (a2 : Int32) (s0 : Int32) (z : tq_S) : Prop := wm_X1_formCells a1 a2 z (tq_wl fun r102 z101 => wm_X1_tell s0 s0 r102 z101 (tq_wv fun z103 => wm_X2_forget z103 (tq_wv fun z104 => wm_X1_size z104 (tq_wi fun r106 z105 => Q (.inl (some (.int r106))) z105))))
theorem ac_X11_form_31 {K : Nat × (Nat → Int32)} {Q : tq_O → tq_S → Prop} {a1 : Int32} {a2 : Int32} {s0 : Int32} {z : tq_S} (h : wc_X11_form_31 Q a1 a2 s0 z) : tq_T K 3 1 mm_X11_form 31 [.ref 0, .int a1, .int a2, .null] [.int s0] z Q := by
  unfold wc_X11_form_31 at h
  refine tq_s_istore_n (kk := 3) (L9 := [.ref 0, .int a1, .int a2, .int s0]) (by decide +kernel) (by decide) rfl ?_
  refine tq_s_aload_n (kk := 0) (by decide +kernel) rfl ?_
  refine fg_11_10_0 rfl (by decide +kernel) ?_
  refine tq_s_iload_n (kk := 3) (by decide +kernel) rfl ?_
  refine tq_s_iload_n (kk := 3) (by decide +kernel) rfl ?_
  refine tq_s_iload_n (kk := 1) (by decide +kernel) rfl ?_
  refine tq_s_iload_n (kk := 2) (by decide +kernel) rfl ?_
  refine tq_callSN (as := [.int a1, .int a2]) (st := [.int s0, .int s0, .ref 1]) (d1 := 2) (x1 := 0) (x2 := 1) (by decide +kernel) ln_11_133 mf_X1_formCells rfl (by decide) np_X1_formCells rfl (Nat.le_of_ble_eq_true rfl) (by decide) (Nat.zero_add _).symm (tq_M_mono (am_X1_formCells h) ?_)
  refine tq_wl_e (fun r102 z101 h => ?_)
  refine tq_callVN (as := [.int s0, .int s0, .long r102]) (st := []) (d1 := 0) (x1 := 0) (x2 := 1) (by decide +kernel) ln_11_116 mf_X1_tell rfl sh_1 rfl (by decide) np_X1_tell rfl (Nat.le_of_ble_eq_true rfl) (by decide) (Nat.zero_add _).symm (tq_M_mono (am_X1_tell h) ?_)
  refine tq_wv_e (fun z103 h => ?_)
  refine tq_s_aload_n (kk := 0) (by decide +kernel) rfl ?_
  refine fg_11_28_0 rfl (by decide +kernel) ?_
  refine tq_callVN (as := []) (st := []) (d1 := 0) (x1 := 0) (x2 := 1) (by decide +kernel) ln_11_120 mf_X2_forget rfl sh_8 rfl (by decide) np_X2_forget rfl (Nat.le_of_ble_eq_true rfl) (by decide) (Nat.zero_add _).symm (tq_M_mono (am_X2_forget h) ?_)
  refine tq_wv_e (fun z104 h => ?_)
  refine tq_s_aload_n (kk := 0) (by decide +kernel) rfl ?_
  refine fg_11_10_0 rfl (by decide +kernel) ?_
  refine tq_callVN (as := []) (st := []) (d1 := 1) (x1 := 0) (x2 := 1) (by decide +kernel) ln_11_123 mf_X1_size rfl sh_1 rfl (by decide) np_X1_size rfl (Nat.le_of_ble_eq_true rfl) (by decide) (Nat.zero_add _).symm (tq_M_mono (am_X1_size h) ?_)
  refine tq_wi_e (fun r106 z105 h => ?_)
  exact tq_ret_i (st := []) (by decide +kernel) rfl h
def wm_X11_form (a1 : Int32) (a2 : Int32) (z : tq_S) (Q : tq_O → tq_S → Prop) : Prop := wm_X1_isForm a1 a2 z (tq_wi fun r2 z1 => ((¬ r2 = 0 → ((¬ a1 = (97 : Int32) → wc_X11_form_31 Q a1 a2 a2 z1) ∧ (a1 = (97 : Int32) → wc_X11_form_31 Q a1 a2 ((2 : Int32) * a2) z1))) ∧ (r2 = 0 → Q (.inr 1) z1)))
theorem am_X11_form {K : Nat × (Nat → Int32)} {z : tq_S} {Q : tq_O → tq_S → Prop} {a1 : Int32} {a2 : Int32} (h : wm_X11_form a1 a2 z Q) : tq_M K 3 1 mm_X11_form [.ref 0, .int a1, .int a2] z Q := by
  unfold wm_X11_form at h
  refine tq_enter (L := [.ref 0, .int a1, .int a2, .null]) mf_X11_form.1 rfl rfl (Nat.le_of_ble_eq_true rfl) ?_
  refine tq_s_iload_n (kk := 1) (by decide +kernel) rfl ?_
  refine tq_s_iload_n (kk := 2) (by decide +kernel) rfl ?_
  refine tq_callSN (as := [.int a1, .int a2]) (st := []) (d1 := 1) (x1 := 0) (x2 := 1) (by decide +kernel) ln_11_127 mf_X1_isForm rfl (by decide) np_X1_isForm rfl (Nat.le_of_ble_eq_true rfl) (by decide) (Nat.zero_add _).symm (tq_M_mono (am_X1_isForm h) ?_)
  refine tq_wi_e (fun r2 z1 h => ?_)
  refine tq_if_ne (off := 13) (tgt := 18) (by decide +kernel) (by decide +kernel) (fun hc => ?_) (fun hc => ?_)
  · replace h := h.1 hc
    refine tq_s_iload_n (kk := 1) (by decide +kernel) rfl ?_
    refine tq_k_bi (n := 97) (v := (97 : Int32)) (by decide +kernel) kb_97 ?_
    refine tq_icmp_ne (off := 9) (tgt := 30) (by decide +kernel) (by decide +kernel) (fun hc => ?_) (fun hc => ?_)
    · replace h := h.1 hc
      refine tq_s_iload_n (kk := 2) (by decide +kernel) rfl ?_
      exact ac_X11_form_31 h
    · replace h := h.2 hc
      refine tq_k_ic (n := 2) (v := (2 : Int32)) (by decide +kernel) kc_2 ?_
      refine tq_s_iload_n (kk := 2) (by decide +kernel) rfl ?_
      refine tq_s_imul (by decide +kernel) ?_
      refine tq_s_goto (off := 4) (tgt := 31) (by decide +kernel) (by decide +kernel) ?_
      exact ac_X11_form_31 h
  · replace h := h.2 hc
    exact tq_throwS th_11_105_131 rfl (by decide +kernel) (by decide +kernel) (by decide +kernel) (by decide +kernel) (by decide +kernel) (Nat.le_of_ble_eq_true rfl) rfl (Nat.le_refl 1) h
def wm_X1_holds (a1 : Int32) (a2 : Int32) (z : tq_S) (Q : tq_O → tq_S → Prop) : Prop := ((a1 < 0 → Q (.inl (some (.int (0 : Int32)))) z) ∧ (¬ a1 < 0 → (((tq_fi z 64) ≤ a1 → Q (.inl (some (.int (0 : Int32)))) z) ∧ (¬ (tq_fi z 64) ≤ a1 → ((a2 < 0 → Q (.inl (some (.int (0 : Int32)))) z) ∧ (¬ a2 < 0 → (((tq_fi z 65) ≤ a2 → Q (.inl (some (.int (0 : Int32)))) z) ∧ (¬ (tq_fi z 65) ≤ a2 → (((((Int64.toUInt64 (tq_fl z 67)) >>> ((Int32.toInt64 (((8 : Int32) * a2) + a1)).toUInt64 &&& Int64.toUInt64 63)).toInt64 &&& (1 : Int64)) = (0 : Int64) → Q (.inl (some (.int (0 : Int32)))) z) ∧ (¬ (((Int64.toUInt64 (tq_fl z 67)) >>> ((Int32.toInt64 (((8 : Int32) * a2) + a1)).toUInt64 &&& Int64.toUInt64 63)).toInt64 &&& (1 : Int64)) = (0 : Int64) → Q (.inl (some (.int (1 : Int32)))) z))))))))))
theorem am_X1_holds {K : Nat × (Nat → Int32)} {x : Nat} {z : tq_S} {Q : tq_O → tq_S → Prop} {a1 : Int32} {a2 : Int32} (h : wm_X1_holds a1 a2 z Q) : tq_M K 0 x mm_X1_holds [.ref 1, .int a1, .int a2] z Q := by
  unfold wm_X1_holds at h
  refine tq_enter (L := [.ref 1, .int a1, .int a2]) mf_X1_holds.1 rfl rfl (Nat.le_of_ble_eq_true rfl) ?_
  refine tq_s_iload_n (kk := 1) (by decide +kernel) rfl ?_
  refine tq_if_lt (off := 45) (tgt := 46) (by decide +kernel) (by decide +kernel) (fun hc => ?_) (fun hc => ?_)
  · replace h := h.1 hc
    refine tq_k_ic (n := 0) (v := (0 : Int32)) (by decide +kernel) kc_0 ?_
    exact tq_ret_z (st := []) (ty := .boolean) (by decide +kernel) (by decide +kernel) rfl h
  · replace h := h.2 hc
    refine tq_s_iload_n (kk := 1) (by decide +kernel) rfl ?_
    refine tq_s_aload_n (kk := 0) (by decide +kernel) rfl ?_
    refine fg_1_7_1 rfl (by decide +kernel) ?_
    refine tq_icmp_ge (off := 37) (tgt := 46) (by decide +kernel) (by decide +kernel) (fun hc => ?_) (fun hc => ?_)
    · replace h := h.1 hc
      refine tq_k_ic (n := 0) (v := (0 : Int32)) (by decide +kernel) kc_0 ?_
      exact tq_ret_z (st := []) (ty := .boolean) (by decide +kernel) (by decide +kernel) rfl h
    · replace h := h.2 hc
      refine tq_s_iload_n (kk := 2) (by decide +kernel) rfl ?_
      refine tq_if_lt (off := 33) (tgt := 46) (by decide +kernel) (by decide +kernel) (fun hc => ?_) (fun hc => ?_)
      · replace h := h.1 hc
        refine tq_k_ic (n := 0) (v := (0 : Int32)) (by decide +kernel) kc_0 ?_
        exact tq_ret_z (st := []) (ty := .boolean) (by decide +kernel) (by decide +kernel) rfl h
      · replace h := h.2 hc
        refine tq_s_iload_n (kk := 2) (by decide +kernel) rfl ?_
        refine tq_s_aload_n (kk := 0) (by decide +kernel) rfl ?_
        refine fg_1_13_1 rfl (by decide +kernel) ?_
        refine tq_icmp_ge (off := 25) (tgt := 46) (by decide +kernel) (by decide +kernel) (fun hc => ?_) (fun hc => ?_)
        · replace h := h.1 hc
          refine tq_k_ic (n := 0) (v := (0 : Int32)) (by decide +kernel) kc_0 ?_
          exact tq_ret_z (st := []) (ty := .boolean) (by decide +kernel) (by decide +kernel) rfl h
        · replace h := h.2 hc
          refine tq_s_aload_n (kk := 0) (by decide +kernel) rfl ?_
          refine fg_1_20_1 rfl (by decide +kernel) ?_
          refine tq_k_bi (n := 8) (v := (8 : Int32)) (by decide +kernel) kb_8 ?_
          refine tq_s_iload_n (kk := 2) (by decide +kernel) rfl ?_
          refine tq_s_imul (by decide +kernel) ?_
          refine tq_s_iload_n (kk := 1) (by decide +kernel) rfl ?_
          refine tq_s_iadd (by decide +kernel) ?_
          refine tq_s_lushr (by decide +kernel) ?_
          refine tq_k_lc (n := 1) (v := (1 : Int64)) (by decide +kernel) (by decide +kernel) ?_
          refine tq_s_land (by decide +kernel) ?_
          refine tq_k_lc (n := 0) (v := (0 : Int64)) (by decide +kernel) (by decide +kernel) ?_
          refine tq_lcmp_eq (off := 7) (tgt := 46) (by decide +kernel) (by decide +kernel) (by decide +kernel) (fun hc => ?_) (fun hc => ?_)
          · replace h := h.1 hc
            refine tq_k_ic (n := 0) (v := (0 : Int32)) (by decide +kernel) kc_0 ?_
            exact tq_ret_z (st := []) (ty := .boolean) (by decide +kernel) (by decide +kernel) rfl h
          · replace h := h.2 hc
            refine tq_k_ic (n := 1) (v := (1 : Int32)) (by decide +kernel) kc_1 ?_
            refine tq_s_goto (off := 4) (tgt := 47) (by decide +kernel) (by decide +kernel) ?_
            exact tq_ret_z (st := []) (ty := .boolean) (by decide +kernel) (by decide +kernel) rfl h
def wm_X1_change (a1 : Int32) (a2 : Int32) (z : tq_S) (Q : tq_O → tq_S → Prop) : Prop := wm_X1_bit a1 a2 z (tq_wl fun r2 z1 => ∀ z3 : tq_S, z3 = tq_sfl z1 67 ((tq_fl z 67) ^^^ r2) → ∀ z4 : tq_S, z4 = tq_sfi z3 68 ((tq_fi z3 68) + (1 : Int32)) → Q (.inl none) z4)
theorem am_X1_change {K : Nat × (Nat → Int32)} {x : Nat} {z : tq_S} {Q : tq_O → tq_S → Prop} {a1 : Int32} {a2 : Int32} (h : wm_X1_change a1 a2 z Q) : tq_M K 1 x mm_X1_change [.ref 1, .int a1, .int a2] z Q := by
  unfold wm_X1_change at h
  refine tq_enter (L := [.ref 1, .int a1, .int a2]) mf_X1_change.1 rfl rfl (Nat.le_of_ble_eq_true rfl) ?_
  refine tq_s_aload_n (kk := 0) (by decide +kernel) rfl ?_
  refine tq_s_dup (by decide +kernel) rfl ?_
  refine fg_1_20_1 rfl (by decide +kernel) ?_
  refine tq_s_iload_n (kk := 1) (by decide +kernel) rfl ?_
  refine tq_s_iload_n (kk := 2) (by decide +kernel) rfl ?_
  refine tq_callS (as := [.int a1, .int a2]) (st := [.long (tq_fl z 67), .ref 1]) (d1 := 0) (x1 := 0) (x2 := x) (by decide +kernel) ln_1_37 mf_X1_bit rfl (by decide) np_X1_bit rfl (Nat.le_of_ble_eq_true rfl) (by decide) (Nat.zero_add _).symm (tq_M_mono (am_X1_bit h) ?_)
  refine tq_wl_e (fun r2 z1 h => ?_)
  refine tq_s_lxor (by decide +kernel) ?_
  refine fp_1_20_1 rfl (by decide +kernel) (fun z3 ez3 => ?_)
  replace h := h z3 ez3
  refine tq_s_aload_n (kk := 0) (by decide +kernel) rfl ?_
  refine tq_s_dup (by decide +kernel) rfl ?_
  refine fg_1_24_1 rfl (by decide +kernel) ?_
  refine tq_k_ic (n := 1) (v := (1 : Int32)) (by decide +kernel) kc_1 ?_
  refine tq_s_iadd (by decide +kernel) ?_
  refine fp_1_24_1 rfl (by decide +kernel) (fun z4 ez4 => ?_)
  replace h := h z4 ez4
  exact tq_ret_v (st := []) (by decide +kernel) rfl h
def wm_X11_cut (a1 : Int32) (a2 : Int32) (z : tq_S) (Q : tq_O → tq_S → Prop) : Prop := wm_X1_holds a1 a2 z (tq_wi fun r2 z1 => ((¬ r2 = 0 → wm_X1_change a1 a2 z1 (tq_wv fun z3 => wm_X2_forget z3 (tq_wv fun z4 => wm_X1_size z4 (tq_wi fun r6 z5 => Q (.inl (some (.int r6))) z5)))) ∧ (r2 = 0 → Q (.inr 3) z1)))
theorem am_X11_cut {K : Nat × (Nat → Int32)} {z : tq_S} {Q : tq_O → tq_S → Prop} {a1 : Int32} {a2 : Int32} (h : wm_X11_cut a1 a2 z Q) : tq_M K 2 1 mm_X11_cut [.ref 0, .int a1, .int a2] z Q := by
  unfold wm_X11_cut at h
  refine tq_enter (L := [.ref 0, .int a1, .int a2]) mf_X11_cut.1 rfl rfl (Nat.le_of_ble_eq_true rfl) ?_
  refine tq_s_aload_n (kk := 0) (by decide +kernel) rfl ?_
  refine fg_11_10_0 rfl (by decide +kernel) ?_
  refine tq_s_iload_n (kk := 1) (by decide +kernel) rfl ?_
  refine tq_s_iload_n (kk := 2) (by decide +kernel) rfl ?_
  refine tq_callVN (as := [.int a1, .int a2]) (st := []) (d1 := 0) (x1 := 0) (x2 := 1) (by decide +kernel) ln_11_137 mf_X1_holds rfl sh_1 rfl (by decide) np_X1_holds rfl (Nat.le_of_ble_eq_true rfl) (by decide) (Nat.zero_add _).symm (tq_M_mono (am_X1_holds h) ?_)
  refine tq_wi_e (fun r2 z1 h => ?_)
  refine tq_if_ne (off := 13) (tgt := 22) (by decide +kernel) (by decide +kernel) (fun hc => ?_) (fun hc => ?_)
  · replace h := h.1 hc
    refine tq_s_aload_n (kk := 0) (by decide +kernel) rfl ?_
    refine fg_11_10_0 rfl (by decide +kernel) ?_
    refine tq_s_iload_n (kk := 1) (by decide +kernel) rfl ?_
    refine tq_s_iload_n (kk := 2) (by decide +kernel) rfl ?_
    refine tq_callVN (as := [.int a1, .int a2]) (st := []) (d1 := 1) (x1 := 0) (x2 := 1) (by decide +kernel) ln_11_146 mf_X1_change rfl sh_1 rfl (by decide) np_X1_change rfl (Nat.le_of_ble_eq_true rfl) (by decide) (Nat.zero_add _).symm (tq_M_mono (am_X1_change h) ?_)
    refine tq_wv_e (fun z3 h => ?_)
    refine tq_s_aload_n (kk := 0) (by decide +kernel) rfl ?_
    refine fg_11_28_0 rfl (by decide +kernel) ?_
    refine tq_callVN (as := []) (st := []) (d1 := 0) (x1 := 0) (x2 := 1) (by decide +kernel) ln_11_120 mf_X2_forget rfl sh_8 rfl (by decide) np_X2_forget rfl (Nat.le_of_ble_eq_true rfl) (by decide) (Nat.zero_add _).symm (tq_M_mono (am_X2_forget h) ?_)
    refine tq_wv_e (fun z4 h => ?_)
    refine tq_s_aload_n (kk := 0) (by decide +kernel) rfl ?_
    refine fg_11_10_0 rfl (by decide +kernel) ?_
    refine tq_callVN (as := []) (st := []) (d1 := 1) (x1 := 0) (x2 := 1) (by decide +kernel) ln_11_123 mf_X1_size rfl sh_1 rfl (by decide) np_X1_size rfl (Nat.le_of_ble_eq_true rfl) (by decide) (Nat.zero_add _).symm (tq_M_mono (am_X1_size h) ?_)
    refine tq_wi_e (fun r6 z5 h => ?_)
    exact tq_ret_i (st := []) (by decide +kernel) rfl h
  · replace h := h.2 hc
    exact tq_throwS th_11_141_143 rfl (by decide +kernel) (by decide +kernel) (by decide +kernel) (by decide +kernel) (by decide +kernel) (Nat.le_of_ble_eq_true rfl) rfl (Nat.le_refl 1) h
def wm_X1_canBeRolled  (z : tq_S) (Q : tq_O → tq_S → Prop) : Prop := ((¬ ((tq_fi z 64) - (tq_fi z 64) / (2 : Int32) * (2 : Int32)) = 0 → Q (.inl (some (.int (0 : Int32)))) z) ∧ (((tq_fi z 64) - (tq_fi z 64) / (2 : Int32) * (2 : Int32)) = 0 → (((tq_fi z 64) < (4 : Int32) → Q (.inl (some (.int (0 : Int32)))) z) ∧ (¬ (tq_fi z 64) < (4 : Int32) → Q (.inl (some (.int (1 : Int32)))) z))))
theorem am_X1_canBeRolled {K : Nat × (Nat → Int32)} {x : Nat} {z : tq_S} {Q : tq_O → tq_S → Prop}  (h : wm_X1_canBeRolled z Q) : tq_M K 0 x mm_X1_canBeRolled [.ref 1] z Q := by
  unfold wm_X1_canBeRolled at h
  refine tq_enter (L := [.ref 1]) mf_X1_canBeRolled.1 rfl rfl (Nat.le_of_ble_eq_true rfl) ?_
  refine tq_s_aload_n (kk := 0) (by decide +kernel) rfl ?_
  refine fg_1_7_1 rfl (by decide +kernel) ?_
  refine tq_k_ic (n := 2) (v := (2 : Int32)) (by decide +kernel) kc_2 ?_
  refine tq_s_irem (by decide +kernel) (by decide +kernel) ?_
  refine tq_if_ne (off := 15) (tgt := 21) (by decide +kernel) (by decide +kernel) (fun hc => ?_) (fun hc => ?_)
  · replace h := h.1 hc
    refine tq_k_ic (n := 0) (v := (0 : Int32)) (by decide +kernel) kc_0 ?_
    exact tq_ret_z (st := []) (ty := .boolean) (by decide +kernel) (by decide +kernel) rfl h
  · replace h := h.2 hc
    refine tq_s_aload_n (kk := 0) (by decide +kernel) rfl ?_
    refine fg_1_7_1 rfl (by decide +kernel) ?_
    refine tq_k_ic (n := 4) (v := (4 : Int32)) (by decide +kernel) kc_4 ?_
    refine tq_icmp_lt (off := 7) (tgt := 21) (by decide +kernel) (by decide +kernel) (fun hc => ?_) (fun hc => ?_)
    · replace h := h.1 hc
      refine tq_k_ic (n := 0) (v := (0 : Int32)) (by decide +kernel) kc_0 ?_
      exact tq_ret_z (st := []) (ty := .boolean) (by decide +kernel) (by decide +kernel) rfl h
    · replace h := h.2 hc
      refine tq_k_ic (n := 1) (v := (1 : Int32)) (by decide +kernel) kc_1 ?_
      refine tq_s_goto (off := 4) (tgt := 22) (by decide +kernel) (by decide +kernel) ?_
      exact tq_ret_z (st := []) (ty := .boolean) (by decide +kernel) (by decide +kernel) rfl h
def wm_X1_turnRound (a1 : Int32) (z : tq_S) (Q : tq_O → tq_S → Prop) : Prop := tq_nz a1 ∧ ∀ z1 : tq_S, z1 = tq_sfi z 66 a1 → ∀ z2 : tq_S, z2 = tq_sfi z1 68 ((tq_fi z1 68) + (1 : Int32)) → Q (.inl none) z2
theorem am_X1_turnRound {K : Nat × (Nat → Int32)} {x : Nat} {z : tq_S} {Q : tq_O → tq_S → Prop} {a1 : Int32} (h : wm_X1_turnRound a1 z Q) : tq_M K 0 x mm_X1_turnRound [.ref 1, .int a1] z Q := by
  unfold wm_X1_turnRound at h
  refine tq_enter (L := [.ref 1, .int a1]) mf_X1_turnRound.1 rfl rfl (Nat.le_of_ble_eq_true rfl) ?_
  refine tq_s_aload_n (kk := 0) (by decide +kernel) rfl ?_
  refine tq_s_iload_n (kk := 1) (by decide +kernel) rfl ?_
  refine fp_1_16_1 rfl (by decide +kernel) (tq_nz_f h.1) (fun z1 ez1 => ?_)
  replace h := h.2 z1 ez1
  refine tq_s_aload_n (kk := 0) (by decide +kernel) rfl ?_
  refine tq_s_dup (by decide +kernel) rfl ?_
  refine fg_1_24_1 rfl (by decide +kernel) ?_
  refine tq_k_ic (n := 1) (v := (1 : Int32)) (by decide +kernel) kc_1 ?_
  refine tq_s_iadd (by decide +kernel) ?_
  refine fp_1_24_1 rfl (by decide +kernel) (fun z2 ez2 => ?_)
  replace h := h z2 ez2
  exact tq_ret_v (st := []) (by decide +kernel) rfl h
def wc_X11_roll_24 (Q : tq_O → tq_S → Prop) (a1 : Int32) (z : tq_S) : Prop := ∀ v101 : Int32, v101 = (tq_fi z 66) → wm_X1_turnRound a1 z (tq_wv fun z102 => wm_X2_forget z102 (tq_wv fun z103 => tq_nz v101 ∧ Q (.inl (some (.int v101))) z103))
theorem ac_X11_roll_24 {K : Nat × (Nat → Int32)} {Q : tq_O → tq_S → Prop} {a1 : Int32} {z : tq_S} (h : wc_X11_roll_24 Q a1 z) : tq_T K 1 1 mm_X11_roll 24 [.ref 0, .int a1, .null] [] z Q := by
  unfold wc_X11_roll_24 at h
  refine tq_s_aload_n (kk := 0) (by decide +kernel) rfl ?_
  refine fg_11_10_0 rfl (by decide +kernel) ?_
  refine fg_11_164_1 rfl (by decide +kernel) ?_
  refine tq_g_istore_n (kk := 2) (fun v101 => [.ref 0, .int a1, .int v101]) (by decide +kernel) (by decide) (fun _ => rfl) (fun v101 ev101 => ?_)
  replace h := h v101 ev101
  refine tq_s_aload_n (kk := 0) (by decide +kernel) rfl ?_
  refine fg_11_10_0 rfl (by decide +kernel) ?_
  refine tq_s_iload_n (kk := 1) (by decide +kernel) rfl ?_
  refine tq_callVN (as := [.int a1]) (st := []) (d1 := 0) (x1 := 0) (x2 := 1) (by decide +kernel) ln_11_168 mf_X1_turnRound rfl sh_1 rfl (by decide) np_X1_turnRound rfl (Nat.le_of_ble_eq_true rfl) (by decide) (Nat.zero_add _).symm (tq_M_mono (am_X1_turnRound h) ?_)
  refine tq_wv_e (fun z102 h => ?_)
  refine tq_s_aload_n (kk := 0) (by decide +kernel) rfl ?_
  refine fg_11_28_0 rfl (by decide +kernel) ?_
  refine tq_callVN (as := []) (st := []) (d1 := 0) (x1 := 0) (x2 := 1) (by decide +kernel) ln_11_120 mf_X2_forget rfl sh_8 rfl (by decide) np_X2_forget rfl (Nat.le_of_ble_eq_true rfl) (by decide) (Nat.zero_add _).symm (tq_M_mono (am_X2_forget h) ?_)
  refine tq_wv_e (fun z103 h => ?_)
  refine tq_s_iload_n (kk := 2) (by decide +kernel) rfl ?_
  exact tq_ret_z (st := []) (ty := .boolean) (by decide +kernel) (tq_nz_f h.1).1 rfl h.2
def wm_X11_roll (a1 : Int32) (z : tq_S) (Q : tq_O → tq_S → Prop) : Prop := ((a1 = 0 → wc_X11_roll_24 Q a1 z) ∧ (¬ a1 = 0 → wm_X1_canBeRolled z (tq_wi fun r2 z1 => ((¬ r2 = 0 → wc_X11_roll_24 Q a1 z1) ∧ (r2 = 0 → Q (.inr 4) z1)))))
theorem am_X11_roll {K : Nat × (Nat → Int32)} {z : tq_S} {Q : tq_O → tq_S → Prop} {a1 : Int32} (h : wm_X11_roll a1 z Q) : tq_M K 1 1 mm_X11_roll [.ref 0, .int a1] z Q := by
  unfold wm_X11_roll at h
  refine tq_enter (L := [.ref 0, .int a1, .null]) mf_X11_roll.1 rfl rfl (Nat.le_of_ble_eq_true rfl) ?_
  refine tq_s_iload_n (kk := 1) (by decide +kernel) rfl ?_
  refine tq_if_eq (off := 23) (tgt := 24) (by decide +kernel) (by decide +kernel) (fun hc => ?_) (fun hc => ?_)
  · replace h := h.1 hc
    exact ac_X11_roll_24 h
  · replace h := h.2 hc
    refine tq_s_aload_n (kk := 0) (by decide +kernel) rfl ?_
    refine fg_11_10_0 rfl (by decide +kernel) ?_
    refine tq_callVN (as := []) (st := []) (d1 := 0) (x1 := 0) (x2 := 1) (by decide +kernel) ln_11_155 mf_X1_canBeRolled rfl sh_1 rfl (by decide) np_X1_canBeRolled rfl (Nat.le_of_ble_eq_true rfl) (by decide) (Nat.zero_add _).symm (tq_M_mono (am_X1_canBeRolled h) ?_)
    refine tq_wi_e (fun r2 z1 h => ?_)
    refine tq_if_ne (off := 13) (tgt := 24) (by decide +kernel) (by decide +kernel) (fun hc => ?_) (fun hc => ?_)
    · replace h := h.1 hc
      exact ac_X11_roll_24 h
    · replace h := h.2 hc
      exact tq_throwS th_11_159_161 rfl (by decide +kernel) (by decide +kernel) (by decide +kernel) (by decide +kernel) (by decide +kernel) (Nat.le_of_ble_eq_true rfl) rfl (Nat.le_refl 1) h
def wc_X11_cells_22 (Q : tq_O → tq_S → Prop) (a1 : Int32) (z : tq_S) : Prop := ((¬ a1 = (97 : Int32) → wm_J13_bitCount_95d88 ((tq_fl z 67) &&& (-6172840429334713771 : Int64)) z (tq_wi fun r102 z101 => Q (.inl (some (.int r102))) z101)) ∧ (a1 = (97 : Int32) → wm_X1_size z (tq_wi fun r104 z103 => Q (.inl (some (.int r104))) z103)))
theorem ac_X11_cells_22 {K : Nat × (Nat → Int32)} {Q : tq_O → tq_S → Prop} {a1 : Int32} {z : tq_S} (h : wc_X11_cells_22 Q a1 z) : tq_T K 2 1 mm_X11_cells 22 [.ref 0, .int a1] [] z Q := by
  unfold wc_X11_cells_22 at h
  refine tq_s_iload_n (kk := 1) (by decide +kernel) rfl ?_
  refine tq_k_bi (n := 97) (v := (97 : Int32)) (by decide +kernel) kb_97 ?_
  refine tq_icmp_ne (off := 13) (tgt := 38) (by decide +kernel) (by decide +kernel) (fun hc => ?_) (fun hc => ?_)
  · replace h := h.1 hc
    refine tq_s_aload_n (kk := 0) (by decide +kernel) rfl ?_
    refine fg_11_10_0 rfl (by decide +kernel) ?_
    refine fg_11_174_1 rfl (by decide +kernel) ?_
    refine tq_s_ldc2 (i := 178) (v := (-6172840429334713771 : Int64)) (by decide +kernel) (by decide +kernel) ?_
    refine tq_s_land (by decide +kernel) ?_
    refine tq_callS (as := [.long ((tq_fl z 67) &&& (-6172840429334713771 : Int64))]) (st := []) (d1 := 0) (x1 := 0) (x2 := 1) (by decide +kernel) ln_11_180 mf_J13_bitCount_95d88 rfl (by decide) np_J13_bitCount_95d88 rfl (Nat.le_of_ble_eq_true rfl) (by decide) (Nat.zero_add _).symm (tq_M_mono (am_J13_bitCount_95d88 h) ?_)
    refine tq_wi_e (fun r102 z101 h => ?_)
    exact tq_ret_i (st := []) (by decide +kernel) rfl h
  · replace h := h.2 hc
    refine tq_s_aload_n (kk := 0) (by decide +kernel) rfl ?_
    refine fg_11_10_0 rfl (by decide +kernel) ?_
    refine tq_callVN (as := []) (st := []) (d1 := 1) (x1 := 0) (x2 := 1) (by decide +kernel) ln_11_123 mf_X1_size rfl sh_1 rfl (by decide) np_X1_size rfl (Nat.le_of_ble_eq_true rfl) (by decide) (Nat.zero_add _).symm (tq_M_mono (am_X1_size h) ?_)
    refine tq_wi_e (fun r104 z103 h => ?_)
    refine tq_s_goto (off := 17) (tgt := 52) (by decide +kernel) (by decide +kernel) ?_
    exact tq_ret_i (st := []) (by decide +kernel) rfl h
def wm_X11_cells (a1 : Int32) (z : tq_S) (Q : tq_O → tq_S → Prop) : Prop := ((a1 = (97 : Int32) → wc_X11_cells_22 Q a1 z) ∧ (¬ a1 = (97 : Int32) → ((a1 = (100 : Int32) → wc_X11_cells_22 Q a1 z) ∧ (¬ a1 = (100 : Int32) → Q (.inr 1) z))))
theorem am_X11_cells {K : Nat × (Nat → Int32)} {z : tq_S} {Q : tq_O → tq_S → Prop} {a1 : Int32} (h : wm_X11_cells a1 z Q) : tq_M K 2 1 mm_X11_cells [.ref 0, .int a1] z Q := by
  unfold wm_X11_cells at h
  refine tq_enter (L := [.ref 0, .int a1]) mf_X11_cells.1 rfl rfl (Nat.le_of_ble_eq_true rfl) ?_
  refine tq_s_iload_n (kk := 1) (by decide +kernel) rfl ?_
  refine tq_k_bi (n := 97) (v := (97 : Int32)) (by decide +kernel) kb_97 ?_
  refine tq_icmp_eq (off := 19) (tgt := 22) (by decide +kernel) (by decide +kernel) (fun hc => ?_) (fun hc => ?_)
  · replace h := h.1 hc
    exact ac_X11_cells_22 h
  · replace h := h.2 hc
    refine tq_s_iload_n (kk := 1) (by decide +kernel) rfl ?_
    refine tq_k_bi (n := 100) (v := (100 : Int32)) (by decide +kernel) kb_100 ?_
    refine tq_icmp_eq (off := 13) (tgt := 22) (by decide +kernel) (by decide +kernel) (fun hc => ?_) (fun hc => ?_)
    · replace h := h.1 hc
      exact ac_X11_cells_22 h
    · replace h := h.2 hc
      exact tq_throwS th_11_105_172 rfl (by decide +kernel) (by decide +kernel) (by decide +kernel) (by decide +kernel) (by decide +kernel) (Nat.le_of_ble_eq_true rfl) rfl (Nat.le_refl 1) h
def wm_X11_has (a1 : Int32) (a2 : Int32) (z : tq_S) (Q : tq_O → tq_S → Prop) : Prop := wm_X1_holds a1 a2 z (tq_wi fun r2 z1 => tq_nz r2 ∧ Q (.inl (some (.int r2))) z1)
theorem am_X11_has {K : Nat × (Nat → Int32)} {x : Nat} {z : tq_S} {Q : tq_O → tq_S → Prop} {a1 : Int32} {a2 : Int32} (h : wm_X11_has a1 a2 z Q) : tq_M K 1 x mm_X11_has [.ref 0, .int a1, .int a2] z Q := by
  unfold wm_X11_has at h
  refine tq_enter (L := [.ref 0, .int a1, .int a2]) mf_X11_has.1 rfl rfl (Nat.le_of_ble_eq_true rfl) ?_
  refine tq_s_aload_n (kk := 0) (by decide +kernel) rfl ?_
  refine fg_11_10_0 rfl (by decide +kernel) ?_
  refine tq_s_iload_n (kk := 1) (by decide +kernel) rfl ?_
  refine tq_s_iload_n (kk := 2) (by decide +kernel) rfl ?_
  refine tq_callVN (as := [.int a1, .int a2]) (st := []) (d1 := 0) (x1 := 0) (x2 := x) (by decide +kernel) ln_11_137 mf_X1_holds rfl sh_1 rfl (by decide) np_X1_holds rfl (Nat.le_of_ble_eq_true rfl) (by decide) (Nat.zero_add _).symm (tq_M_mono (am_X1_holds h) ?_)
  refine tq_wi_e (fun r2 z1 h => ?_)
  exact tq_ret_z (st := []) (ty := .boolean) (by decide +kernel) (tq_nz_f h.1).1 rfl h.2
def wb_J7_fill_d0a16_6 (B6 : Int32 → tq_S → Prop) (Q : tq_O → tq_S → Prop) (a1 : Int64) (a3 : Int32) (a4 : Int32) (z : tq_S) : Prop := ((a4 ≤ a3 → Q (.inl none) z) ∧ (¬ a4 ≤ a3 → vp_in a3 2304 ∧ ∀ z101 : tq_S, z101 = tq_sal z 3 (vp_updL (tq_al z 3) (Int32.toNatClampNeg a3) a1) → ∀ v102 : Int32, v102 = a3 + (1 : Int32) → B6 v102 z101))
def wc_J7_fill_d0a16_6 (Q : tq_O → tq_S → Prop) (a1 : Int64) (a3 : Int32) (a4 : Int32) (z : tq_S) : Prop := tq_lp (σ := Int32 × tq_S) (fun B s => wb_J7_fill_d0a16_6 (fun b3 z => B (b3, z)) Q a1 s.1 a4 s.2) (a3, z)
theorem ab_J7_fill_d0a16_6 {K : Nat × (Nat → Int32)} {x : Nat} {Q : tq_O → tq_S → Prop} {B6 : Int32 → tq_S → Prop} {a1 : Int64} {a3 : Int32} {a4 : Int32} {z : tq_S} (hB6 : ∀ (b3 : Int32) (z : tq_S), B6 b3 z → tq_T K 0 x mm_J7_fill_d0a16 6 [.ref 3, .long a1, .null, .int b3, .int a4] [] z Q) (h : wb_J7_fill_d0a16_6 B6 Q a1 a3 a4 z) : tq_T K 0 x mm_J7_fill_d0a16 6 [.ref 3, .long a1, .null, .int a3, .int a4] [] z Q := by
  unfold wb_J7_fill_d0a16_6 at h
  refine tq_s_iload_n (kk := 3) (by decide +kernel) rfl ?_
  refine tq_s_iload (i := 4) (by decide +kernel) rfl ?_
  refine tq_icmp_ge (off := 13) (tgt := 22) (by decide +kernel) (by decide +kernel) (fun hc => ?_) (fun hc => ?_)
  · replace h := h.1 hc
    exact tq_ret_v (st := []) (by decide +kernel) rfl h
  · replace h := h.2 hc
    refine tq_s_aload_n (kk := 0) (by decide +kernel) rfl ?_
    refine tq_s_iload_n (kk := 3) (by decide +kernel) rfl ?_
    refine tq_s_lload_n (kk := 1) (by decide +kernel) rfl ?_
    refine tq_g_last (by decide +kernel) sh_3 h.1 (fun z101 ez101 => ?_)
    replace h := h.2 z101 ez101
    refine tq_g_iinc (i := 3) (fun v102 => [.ref 3, .long a1, .null, .int v102, .int a4]) (by decide +kernel) rfl (1 : Int32) kc_1 (fun _ => rfl) (fun v102 ev102 => ?_)
    replace h := h v102 ev102
    refine tq_s_goto (off := -13) (tgt := 6) (by decide +kernel) (by decide +kernel) ?_
    exact hB6 _ _ h
theorem ac_J7_fill_d0a16_6 {K : Nat × (Nat → Int32)} {x : Nat} {Q : tq_O → tq_S → Prop} {a1 : Int64} {a3 : Int32} {a4 : Int32} {z : tq_S} (h : wc_J7_fill_d0a16_6 Q a1 a3 a4 z) : tq_T K 0 x mm_J7_fill_d0a16 6 [.ref 3, .long a1, .null, .int a3, .int a4] [] z Q :=
  tq_lp_T (σ := Int32 × tq_S) (s := (a3, z)) (G := fun s => tq_T K 0 x mm_J7_fill_d0a16 6 [.ref 3, .long a1, .null, .int s.1, .int a4] [] s.2 Q) (fun B hB s h => ab_J7_fill_d0a16_6 (fun b3 z h => hB (b3, z) h) h) h
def wm_J7_fill_d0a16 (a1 : Int64) (z : tq_S) (Q : tq_O → tq_S → Prop) : Prop := ∀ v1 : Int32, v1 = (Int32.ofNat 2304) → wc_J7_fill_d0a16_6 Q a1 (0 : Int32) v1 z
theorem am_J7_fill_d0a16 {K : Nat × (Nat → Int32)} {x : Nat} {z : tq_S} {Q : tq_O → tq_S → Prop} {a1 : Int64} (h : wm_J7_fill_d0a16 a1 z Q) : tq_M K 0 x mm_J7_fill_d0a16 [.ref 3, .long a1] z Q := by
  unfold wm_J7_fill_d0a16 at h
  refine tq_enter (L := [.ref 3, .long a1, .null, .null, .null]) mf_J7_fill_d0a16.1 rfl rfl (Nat.le_of_ble_eq_true rfl) ?_
  refine tq_k_ic (n := 0) (v := (0 : Int32)) (by decide +kernel) kc_0 ?_
  refine tq_s_istore_n (kk := 3) (L9 := [.ref 3, .long a1, .null, .int (0 : Int32), .null]) (by decide +kernel) (by decide) rfl ?_
  refine tq_s_aload_n (kk := 0) (by decide +kernel) rfl ?_
  refine tq_s_alen (by decide +kernel) sh_3 (by decide) ?_
  refine tq_g_istore (i := 4) (fun v1 => [.ref 3, .long a1, .null, .int (0 : Int32), .int v1]) (by decide +kernel) (by decide) (fun _ => rfl) (fun v1 ev1 => ?_)
  replace h := h v1 ev1
  exact ac_J7_fill_d0a16_6 h
def wc_X5_after_227 (Q : tq_O → tq_S → Prop) (a3 : Int32) (a4 : Int32) (s0 : Int32) (z : tq_S) : Prop := ((¬ a4 = (3 : Int32) → Q (.inl (some (.int (-1 : Int32)))) z) ∧ (a4 = (3 : Int32) → ((s0 = 0 → Q (.inl (some (.int (-1 : Int32)))) z) ∧ (¬ s0 = 0 → Q (.inl (some (.int (a3 ||| (256 : Int32))))) z))))
theorem ac_X5_after_227 {K : Nat × (Nat → Int32)} {x : Nat} {Q : tq_O → tq_S → Prop} {a3 : Int32} {a4 : Int32} {s0 : Int32} {z : tq_S} (h : wc_X5_after_227 Q a3 a4 s0 z) : tq_T K 0 x mm_X5_after 227 [.null, .null, .null, .int a3, .int a4, .null, .null, .null, .null, .null] [.int s0] z Q := by
  unfold wc_X5_after_227 at h
  refine tq_s_istore (i := 9) (L9 := [.null, .null, .null, .int a3, .int a4, .null, .null, .null, .null, .int s0]) (by decide +kernel) (by decide) rfl ?_
  refine tq_s_iload (i := 4) (by decide +kernel) rfl ?_
  refine tq_k_ic (n := 3) (v := (3 : Int32)) (by decide +kernel) kc_3 ?_
  refine tq_icmp_ne (off := 16) (tgt := 248) (by decide +kernel) (by decide +kernel) (fun hc => ?_) (fun hc => ?_)
  · replace h := h.1 hc
    refine tq_k_ic (n := -1) (v := (-1 : Int32)) (by decide +kernel) kc_m1 ?_
    exact tq_ret_i (st := []) (by decide +kernel) rfl h
  · replace h := h.2 hc
    refine tq_s_iload (i := 9) (by decide +kernel) rfl ?_
    refine tq_if_eq (off := 11) (tgt := 248) (by decide +kernel) (by decide +kernel) (fun hc => ?_) (fun hc => ?_)
    · replace h := h.1 hc
      refine tq_k_ic (n := -1) (v := (-1 : Int32)) (by decide +kernel) kc_m1 ?_
      exact tq_ret_i (st := []) (by decide +kernel) rfl h
    · replace h := h.2 hc
      refine tq_s_iload_n (kk := 3) (by decide +kernel) rfl ?_
      refine tq_k_si (n := 256) (v := (256 : Int32)) (by decide +kernel) ks_256 ?_
      refine tq_s_ior (by decide +kernel) ?_
      refine tq_s_goto (off := 4) (tgt := 249) (by decide +kernel) (by decide +kernel) ?_
      exact tq_ret_i (st := []) (by decide +kernel) rfl h
def wc_X5_after_226 (Q : tq_O → tq_S → Prop) (a3 : Int32) (a4 : Int32) (z : tq_S) : Prop := wc_X5_after_227 Q a3 a4 (0 : Int32) z
theorem ac_X5_after_226 {K : Nat × (Nat → Int32)} {x : Nat} {Q : tq_O → tq_S → Prop} {a3 : Int32} {a4 : Int32} {z : tq_S} (h : wc_X5_after_226 Q a3 a4 z) : tq_T K 0 x mm_X5_after 226 [.null, .null, .null, .int a3, .int a4, .null, .null, .null, .null, .null] [] z Q := by
  unfold wc_X5_after_226 at h
  refine tq_k_ic (n := 0) (v := (0 : Int32)) (by decide +kernel) kc_0 ?_
  exact ac_X5_after_227 h
def wc_X5_after_90 (Q : tq_O → tq_S → Prop) (a1 : Int32) (a2 : Int32) (a3 : Int32) (a4 : Int32) (a5 : Int32) (a6 : Int32) (a7 : Int32) (a8 : Int32) (z : tq_S) : Prop := ((¬ a8 = 0 → ((¬ a4 = (1 : Int32) → ((¬ a4 = (2 : Int32) → (((tq_fi z 66) = 0 → wc_X5_after_226 Q a3 a4 z) ∧ (¬ (tq_fi z 66) = 0 → ((¬ a1 = 0 → wc_X5_after_226 Q a3 a4 z) ∧ (a1 = 0 → (((a5 &&& a7) = 0 → wc_X5_after_226 Q a3 a4 z) ∧ (¬ (a5 &&& a7) = 0 → ((¬ (a3 &&& a7) = 0 → wc_X5_after_226 Q a3 a4 z) ∧ ((a3 &&& a7) = 0 → wc_X5_after_227 Q a3 a4 (1 : Int32) z))))))))) ∧ (a4 = (2 : Int32) → (((tq_fi z 65) ≤ (a2 + (1 : Int32)) → Q (.inl (some (.int (-1 : Int32)))) z) ∧ (¬ (tq_fi z 65) ≤ (a2 + (1 : Int32)) → (((((Int32.toUInt32 a5) >>> ((Int32.toUInt32 (8 : Int32)) &&& Int32.toUInt32 31)).toInt32 &&& a6) = 0 → Q (.inl (some (.int (-1 : Int32)))) z) ∧ (¬ (((Int32.toUInt32 a5) >>> ((Int32.toUInt32 (8 : Int32)) &&& Int32.toUInt32 31)).toInt32 &&& a6) = 0 → Q (.inl (some (.int (a3 ||| a6)))) z))))))) ∧ (a4 = (1 : Int32) → ∀ v101 : Int32, v101 = (a6 <<< ((1 : Int32) &&& 31)) → ((a6 = a7 → Q (.inl (some (.int (-1 : Int32)))) z) ∧ (¬ a6 = a7 → (((a5 &&& v101) = 0 → Q (.inl (some (.int (-1 : Int32)))) z) ∧ (¬ (a5 &&& v101) = 0 → ((¬ (a3 &&& v101) = 0 → Q (.inl (some (.int (-1 : Int32)))) z) ∧ ((a3 &&& v101) = 0 → Q (.inl (some (.int (a3 ||| v101)))) z))))))))) ∧ (a8 = 0 → ((¬ a4 = 0 → Q (.inl (some (.int (-1 : Int32)))) z) ∧ (a4 = 0 → Q (.inl (some (.int (a3 &&& (a6 ^^^ (-1 : Int32)))))) z))))
theorem ac_X5_after_90 {K : Nat × (Nat → Int32)} {x : Nat} {Q : tq_O → tq_S → Prop} {a1 : Int32} {a2 : Int32} {a3 : Int32} {a4 : Int32} {a5 : Int32} {a6 : Int32} {a7 : Int32} {a8 : Int32} {z : tq_S} (h : wc_X5_after_90 Q a1 a2 a3 a4 a5 a6 a7 a8 z) : tq_T K 0 x mm_X5_after 90 [.ref 2, .int a1, .int a2, .int a3, .int a4, .int a5, .int a6, .int a7, .int a8, .null] [] z Q := by
  unfold wc_X5_after_90 at h
  refine tq_s_iload (i := 8) (by decide +kernel) rfl ?_
  refine tq_if_ne (off := 19) (tgt := 111) (by decide +kernel) (by decide +kernel) (fun hc => ?_) (fun hc => ?_)
  · replace h := h.1 hc
    refine tq_s_iload (i := 4) (by decide +kernel) rfl ?_
    refine tq_k_ic (n := 1) (v := (1 : Int32)) (by decide +kernel) kc_1 ?_
    refine tq_icmp_ne (off := 40) (tgt := 154) (by decide +kernel) (by decide +kernel) (fun hc => ?_) (fun hc => ?_)
    · replace h := h.1 hc
      refine tq_s_iload (i := 4) (by decide +kernel) rfl ?_
      refine tq_k_ic (n := 2) (v := (2 : Int32)) (by decide +kernel) kc_2 ?_
      refine tq_icmp_ne (off := 36) (tgt := 193) (by decide +kernel) (by decide +kernel) (fun hc => ?_) (fun hc => ?_)
      · replace h := h.1 hc
        refine tq_s_aload_n (kk := 0) (by decide +kernel) rfl ?_
        refine fg_5_7_2 rfl (by decide +kernel) ?_
        refine fg_5_54_1 rfl (by decide +kernel) ?_
        refine tq_if_eq (off := 26) (tgt := 226) (by decide +kernel) (by decide +kernel) (fun hc => ?_) (fun hc => ?_)
        · replace h := h.1 hc
          exact tq_to (tq_ld1 (tq_ld1 (tq_ld1 (tq_lk1 (tq_lk1 (tq_ld1 (tq_ld1 (tq_ld1 (tq_ld1 (tq_lk1 tq_l0)))))))))) (ac_X5_after_226 h)
        · replace h := h.2 hc
          refine tq_s_iload_n (kk := 1) (by decide +kernel) rfl ?_
          refine tq_if_ne (off := 22) (tgt := 226) (by decide +kernel) (by decide +kernel) (fun hc => ?_) (fun hc => ?_)
          · replace h := h.1 hc
            exact tq_to (tq_ld1 (tq_ld1 (tq_ld1 (tq_lk1 (tq_lk1 (tq_ld1 (tq_ld1 (tq_ld1 (tq_ld1 (tq_lk1 tq_l0)))))))))) (ac_X5_after_226 h)
          · replace h := h.2 hc
            refine tq_s_iload (i := 5) (by decide +kernel) rfl ?_
            refine tq_s_iload (i := 7) (by decide +kernel) rfl ?_
            refine tq_s_iand (by decide +kernel) ?_
            refine tq_if_eq (off := 14) (tgt := 226) (by decide +kernel) (by decide +kernel) (fun hc => ?_) (fun hc => ?_)
            · replace h := h.1 hc
              exact tq_to (tq_ld1 (tq_ld1 (tq_ld1 (tq_lk1 (tq_lk1 (tq_ld1 (tq_ld1 (tq_ld1 (tq_ld1 (tq_lk1 tq_l0)))))))))) (ac_X5_after_226 h)
            · replace h := h.2 hc
              refine tq_s_iload_n (kk := 3) (by decide +kernel) rfl ?_
              refine tq_s_iload (i := 7) (by decide +kernel) rfl ?_
              refine tq_s_iand (by decide +kernel) ?_
              refine tq_if_ne (off := 7) (tgt := 226) (by decide +kernel) (by decide +kernel) (fun hc => ?_) (fun hc => ?_)
              · replace h := h.1 hc
                exact tq_to (tq_ld1 (tq_ld1 (tq_ld1 (tq_lk1 (tq_lk1 (tq_ld1 (tq_ld1 (tq_ld1 (tq_ld1 (tq_lk1 tq_l0)))))))))) (ac_X5_after_226 h)
              · replace h := h.2 hc
                refine tq_k_ic (n := 1) (v := (1 : Int32)) (by decide +kernel) kc_1 ?_
                refine tq_s_goto (off := 4) (tgt := 227) (by decide +kernel) (by decide +kernel) ?_
                exact tq_to (tq_ld1 (tq_ld1 (tq_ld1 (tq_lk1 (tq_lk1 (tq_ld1 (tq_ld1 (tq_ld1 (tq_ld1 (tq_lk1 tq_l0)))))))))) (ac_X5_after_227 h)
      · replace h := h.2 hc
        refine tq_s_iload_n (kk := 2) (by decide +kernel) rfl ?_
        refine tq_k_ic (n := 1) (v := (1 : Int32)) (by decide +kernel) kc_1 ?_
        refine tq_s_iadd (by decide +kernel) ?_
        refine tq_s_aload_n (kk := 0) (by decide +kernel) rfl ?_
        refine fg_5_7_2 rfl (by decide +kernel) ?_
        refine fg_5_51_1 rfl (by decide +kernel) ?_
        refine tq_icmp_ge (off := 21) (tgt := 191) (by decide +kernel) (by decide +kernel) (fun hc => ?_) (fun hc => ?_)
        · replace h := h.1 hc
          refine tq_k_ic (n := -1) (v := (-1 : Int32)) (by decide +kernel) kc_m1 ?_
          exact tq_ret_i (st := []) (by decide +kernel) rfl h
        · replace h := h.2 hc
          refine tq_s_iload (i := 5) (by decide +kernel) rfl ?_
          refine tq_k_bi (n := 8) (v := (8 : Int32)) (by decide +kernel) kb_8 ?_
          refine tq_s_iushr (by decide +kernel) ?_
          refine tq_s_iload (i := 6) (by decide +kernel) rfl ?_
          refine tq_s_iand (by decide +kernel) ?_
          refine tq_if_eq (off := 10) (tgt := 191) (by decide +kernel) (by decide +kernel) (fun hc => ?_) (fun hc => ?_)
          · replace h := h.1 hc
            refine tq_k_ic (n := -1) (v := (-1 : Int32)) (by decide +kernel) kc_m1 ?_
            exact tq_ret_i (st := []) (by decide +kernel) rfl h
          · replace h := h.2 hc
            refine tq_s_iload_n (kk := 3) (by decide +kernel) rfl ?_
            refine tq_s_iload (i := 6) (by decide +kernel) rfl ?_
            refine tq_s_ior (by decide +kernel) ?_
            refine tq_s_goto (off := 4) (tgt := 192) (by decide +kernel) (by decide +kernel) ?_
            exact tq_ret_i (st := []) (by decide +kernel) rfl h
    · replace h := h.2 hc
      refine tq_s_iload (i := 6) (by decide +kernel) rfl ?_
      refine tq_k_ic (n := 1) (v := (1 : Int32)) (by decide +kernel) kc_1 ?_
      refine tq_s_ishl (by decide +kernel) ?_
      refine tq_g_istore (i := 9) (fun v101 => [.ref 2, .int a1, .int a2, .int a3, .int a4, .int a5, .int a6, .int a7, .int a8, .int v101]) (by decide +kernel) (by decide) (fun _ => rfl) (fun v101 ev101 => ?_)
      replace h := h v101 ev101
      refine tq_s_iload (i := 6) (by decide +kernel) rfl ?_
      refine tq_s_iload (i := 7) (by decide +kernel) rfl ?_
      refine tq_icmp_eq (off := 25) (tgt := 152) (by decide +kernel) (by decide +kernel) (fun hc => ?_) (fun hc => ?_)
      · replace h := h.1 hc
        refine tq_k_ic (n := -1) (v := (-1 : Int32)) (by decide +kernel) kc_m1 ?_
        exact tq_ret_i (st := []) (by decide +kernel) rfl h
      · replace h := h.2 hc
        refine tq_s_iload (i := 5) (by decide +kernel) rfl ?_
        refine tq_s_iload (i := 9) (by decide +kernel) rfl ?_
        refine tq_s_iand (by decide +kernel) ?_
        refine tq_if_eq (off := 17) (tgt := 152) (by decide +kernel) (by decide +kernel) (fun hc => ?_) (fun hc => ?_)
        · replace h := h.1 hc
          refine tq_k_ic (n := -1) (v := (-1 : Int32)) (by decide +kernel) kc_m1 ?_
          exact tq_ret_i (st := []) (by decide +kernel) rfl h
        · replace h := h.2 hc
          refine tq_s_iload_n (kk := 3) (by decide +kernel) rfl ?_
          refine tq_s_iload (i := 9) (by decide +kernel) rfl ?_
          refine tq_s_iand (by decide +kernel) ?_
          refine tq_if_ne (off := 10) (tgt := 152) (by decide +kernel) (by decide +kernel) (fun hc => ?_) (fun hc => ?_)
          · replace h := h.1 hc
            refine tq_k_ic (n := -1) (v := (-1 : Int32)) (by decide +kernel) kc_m1 ?_
            exact tq_ret_i (st := []) (by decide +kernel) rfl h
          · replace h := h.2 hc
            refine tq_s_iload_n (kk := 3) (by decide +kernel) rfl ?_
            refine tq_s_iload (i := 9) (by decide +kernel) rfl ?_
            refine tq_s_ior (by decide +kernel) ?_
            refine tq_s_goto (off := 4) (tgt := 153) (by decide +kernel) (by decide +kernel) ?_
            exact tq_ret_i (st := []) (by decide +kernel) rfl h
  · replace h := h.2 hc
    refine tq_s_iload (i := 4) (by decide +kernel) rfl ?_
    refine tq_if_ne (off := 12) (tgt := 109) (by decide +kernel) (by decide +kernel) (fun hc => ?_) (fun hc => ?_)
    · replace h := h.1 hc
      refine tq_k_ic (n := -1) (v := (-1 : Int32)) (by decide +kernel) kc_m1 ?_
      exact tq_ret_i (st := []) (by decide +kernel) rfl h
    · replace h := h.2 hc
      refine tq_s_iload_n (kk := 3) (by decide +kernel) rfl ?_
      refine tq_s_iload (i := 6) (by decide +kernel) rfl ?_
      refine tq_k_ic (n := -1) (v := (-1 : Int32)) (by decide +kernel) kc_m1 ?_
      refine tq_s_ixor (by decide +kernel) ?_
      refine tq_s_iand (by decide +kernel) ?_
      refine tq_s_goto (off := 4) (tgt := 110) (by decide +kernel) (by decide +kernel) ?_
      exact tq_ret_i (st := []) (by decide +kernel) rfl h
def wc_X5_after_53 (Q : tq_O → tq_S → Prop) (a1 : Int32) (a2 : Int32) (a3 : Int32) (a4 : Int32) (a5 : Int32) (a6 : Int32) (a7 : Int32) (s0 : Int32) (z : tq_S) : Prop := ((¬ a6 = a7 → wc_X5_after_90 Q a1 a2 a3 a4 a5 a6 a7 s0 z) ∧ (a6 = a7 → (((a3 &&& (256 : Int32)) = 0 → wc_X5_after_90 Q a1 a2 a3 a4 a5 a6 a7 s0 z) ∧ (¬ (a3 &&& (256 : Int32)) = 0 → ((¬ a4 = 0 → Q (.inl (some (.int (-1 : Int32)))) z) ∧ (a4 = 0 → ((s0 = 0 → Q (.inl (some (.int (-1 : Int32)))) z) ∧ (¬ s0 = 0 → Q (.inl (some (.int (a3 &&& (-257 : Int32))))) z))))))))
theorem ac_X5_after_53 {K : Nat × (Nat → Int32)} {x : Nat} {Q : tq_O → tq_S → Prop} {a1 : Int32} {a2 : Int32} {a3 : Int32} {a4 : Int32} {a5 : Int32} {a6 : Int32} {a7 : Int32} {s0 : Int32} {z : tq_S} (h : wc_X5_after_53 Q a1 a2 a3 a4 a5 a6 a7 s0 z) : tq_T K 0 x mm_X5_after 53 [.ref 2, .int a1, .int a2, .int a3, .int a4, .int a5, .int a6, .int a7, .null, .null] [.int s0] z Q := by
  unfold wc_X5_after_53 at h
  refine tq_s_istore (i := 8) (L9 := [.ref 2, .int a1, .int a2, .int a3, .int a4, .int a5, .int a6, .int a7, .int s0, .null]) (by decide +kernel) (by decide) rfl ?_
  refine tq_s_iload (i := 6) (by decide +kernel) rfl ?_
  refine tq_s_iload (i := 7) (by decide +kernel) rfl ?_
  refine tq_icmp_ne (off := 31) (tgt := 90) (by decide +kernel) (by decide +kernel) (fun hc => ?_) (fun hc => ?_)
  · replace h := h.1 hc
    exact ac_X5_after_90 h
  · replace h := h.2 hc
    refine tq_s_iload_n (kk := 3) (by decide +kernel) rfl ?_
    refine tq_k_si (n := 256) (v := (256 : Int32)) (by decide +kernel) ks_256 ?_
    refine tq_s_iand (by decide +kernel) ?_
    refine tq_if_eq (off := 23) (tgt := 90) (by decide +kernel) (by decide +kernel) (fun hc => ?_) (fun hc => ?_)
    · replace h := h.1 hc
      exact ac_X5_after_90 h
    · replace h := h.2 hc
      refine tq_s_iload (i := 4) (by decide +kernel) rfl ?_
      refine tq_if_ne (off := 16) (tgt := 88) (by decide +kernel) (by decide +kernel) (fun hc => ?_) (fun hc => ?_)
      · replace h := h.1 hc
        refine tq_k_ic (n := -1) (v := (-1 : Int32)) (by decide +kernel) kc_m1 ?_
        exact tq_ret_i (st := []) (by decide +kernel) rfl h
      · replace h := h.2 hc
        refine tq_s_iload (i := 8) (by decide +kernel) rfl ?_
        refine tq_if_eq (off := 11) (tgt := 88) (by decide +kernel) (by decide +kernel) (fun hc => ?_) (fun hc => ?_)
        · replace h := h.1 hc
          refine tq_k_ic (n := -1) (v := (-1 : Int32)) (by decide +kernel) kc_m1 ?_
          exact tq_ret_i (st := []) (by decide +kernel) rfl h
        · replace h := h.2 hc
          refine tq_s_iload_n (kk := 3) (by decide +kernel) rfl ?_
          refine tq_k_si (n := -257) (v := (-257 : Int32)) (by decide +kernel) ks_m257 ?_
          refine tq_s_iand (by decide +kernel) ?_
          refine tq_s_goto (off := 4) (tgt := 89) (by decide +kernel) (by decide +kernel) ?_
          exact tq_ret_i (st := []) (by decide +kernel) rfl h
def wc_X5_after_52 (Q : tq_O → tq_S → Prop) (a1 : Int32) (a2 : Int32) (a3 : Int32) (a4 : Int32) (a5 : Int32) (a6 : Int32) (a7 : Int32) (z : tq_S) : Prop := wc_X5_after_53 Q a1 a2 a3 a4 a5 a6 a7 (0 : Int32) z
theorem ac_X5_after_52 {K : Nat × (Nat → Int32)} {x : Nat} {Q : tq_O → tq_S → Prop} {a1 : Int32} {a2 : Int32} {a3 : Int32} {a4 : Int32} {a5 : Int32} {a6 : Int32} {a7 : Int32} {z : tq_S} (h : wc_X5_after_52 Q a1 a2 a3 a4 a5 a6 a7 z) : tq_T K 0 x mm_X5_after 52 [.ref 2, .int a1, .int a2, .int a3, .int a4, .int a5, .int a6, .int a7, .null, .null] [] z Q := by
  unfold wc_X5_after_52 at h
  refine tq_k_ic (n := 0) (v := (0 : Int32)) (by decide +kernel) kc_0 ?_
  exact ac_X5_after_53 h
def wm_X5_after (a1 : Int32) (a2 : Int32) (a3 : Int32) (a4 : Int32) (z : tq_S) (Q : tq_O → tq_S → Prop) : Prop := ∀ v1 : Int32, v1 = (Int64.toInt32 ((Int64.toUInt64 (tq_fl z 67)) >>> ((Int32.toInt64 ((8 : Int32) * a2)).toUInt64 &&& Int64.toUInt64 63)).toInt64) → ∀ v2 : Int32, v2 = ((1 : Int32) <<< (a1 &&& 31)) → ∀ v3 : Int32, v3 = ((1 : Int32) <<< (((tq_fi z 64) - (1 : Int32)) &&& 31)) → (((v1 &&& v2) = 0 → wc_X5_after_52 Q a1 a2 a3 a4 v1 v2 v3 z) ∧ (¬ (v1 &&& v2) = 0 → ((¬ (a3 &&& v2) = 0 → wc_X5_after_52 Q a1 a2 a3 a4 v1 v2 v3 z) ∧ ((a3 &&& v2) = 0 → wc_X5_after_53 Q a1 a2 a3 a4 v1 v2 v3 (1 : Int32) z))))
theorem am_X5_after {K : Nat × (Nat → Int32)} {x : Nat} {z : tq_S} {Q : tq_O → tq_S → Prop} {a1 : Int32} {a2 : Int32} {a3 : Int32} {a4 : Int32} (h : wm_X5_after a1 a2 a3 a4 z Q) : tq_M K 0 x mm_X5_after [.ref 2, .int a1, .int a2, .int a3, .int a4] z Q := by
  unfold wm_X5_after at h
  refine tq_enter (L := [.ref 2, .int a1, .int a2, .int a3, .int a4, .null, .null, .null, .null, .null]) mf_X5_after.1 rfl rfl (Nat.le_of_ble_eq_true rfl) ?_
  refine tq_s_aload_n (kk := 0) (by decide +kernel) rfl ?_
  refine fg_5_7_2 rfl (by decide +kernel) ?_
  refine fg_5_45_1 rfl (by decide +kernel) ?_
  refine tq_k_bi (n := 8) (v := (8 : Int32)) (by decide +kernel) kb_8 ?_
  refine tq_s_iload_n (kk := 2) (by decide +kernel) rfl ?_
  refine tq_s_imul (by decide +kernel) ?_
  refine tq_s_lushr (by decide +kernel) ?_
  refine tq_s_l2i (by decide +kernel) ?_
  refine tq_g_istore (i := 5) (fun v1 => [.ref 2, .int a1, .int a2, .int a3, .int a4, .int v1, .null, .null, .null, .null]) (by decide +kernel) (by decide) (fun _ => rfl) (fun v1 ev1 => ?_)
  replace h := h v1 ev1
  refine tq_k_ic (n := 1) (v := (1 : Int32)) (by decide +kernel) kc_1 ?_
  refine tq_s_iload_n (kk := 1) (by decide +kernel) rfl ?_
  refine tq_s_ishl (by decide +kernel) ?_
  refine tq_g_istore (i := 6) (fun v2 => [.ref 2, .int a1, .int a2, .int a3, .int a4, .int v1, .int v2, .null, .null, .null]) (by decide +kernel) (by decide) (fun _ => rfl) (fun v2 ev2 => ?_)
  replace h := h v2 ev2
  refine tq_k_ic (n := 1) (v := (1 : Int32)) (by decide +kernel) kc_1 ?_
  refine tq_s_aload_n (kk := 0) (by decide +kernel) rfl ?_
  refine fg_5_7_2 rfl (by decide +kernel) ?_
  refine fg_5_48_1 rfl (by decide +kernel) ?_
  refine tq_k_ic (n := 1) (v := (1 : Int32)) (by decide +kernel) kc_1 ?_
  refine tq_s_isub (by decide +kernel) ?_
  refine tq_s_ishl (by decide +kernel) ?_
  refine tq_g_istore (i := 7) (fun v3 => [.ref 2, .int a1, .int a2, .int a3, .int a4, .int v1, .int v2, .int v3, .null, .null]) (by decide +kernel) (by decide) (fun _ => rfl) (fun v3 ev3 => ?_)
  replace h := h v3 ev3
  refine tq_s_iload (i := 5) (by decide +kernel) rfl ?_
  refine tq_s_iload (i := 6) (by decide +kernel) rfl ?_
  refine tq_s_iand (by decide +kernel) ?_
  refine tq_if_eq (off := 14) (tgt := 52) (by decide +kernel) (by decide +kernel) (fun hc => ?_) (fun hc => ?_)
  · replace h := h.1 hc
    exact ac_X5_after_52 h
  · replace h := h.2 hc
    refine tq_s_iload_n (kk := 3) (by decide +kernel) rfl ?_
    refine tq_s_iload (i := 6) (by decide +kernel) rfl ?_
    refine tq_s_iand (by decide +kernel) ?_
    refine tq_if_ne (off := 7) (tgt := 52) (by decide +kernel) (by decide +kernel) (fun hc => ?_) (fun hc => ?_)
    · replace h := h.1 hc
      exact ac_X5_after_52 h
    · replace h := h.2 hc
      refine tq_k_ic (n := 1) (v := (1 : Int32)) (by decide +kernel) kc_1 ?_
      refine tq_s_goto (off := 4) (tgt := 53) (by decide +kernel) (by decide +kernel) ?_
      exact ac_X5_after_53 h
def wm_X5_onward (a1 : Int32) (a2 : Int32) (z : tq_S) (Q : tq_O → tq_S → Prop) : Prop := ((0 ≤ a2 → vp_in (((a1 + (1 : Int32)) * (512 : Int32)) + a2) 4608 ∧ Q (.inl (some (.long (tq_al z 4 (Int32.toNatClampNeg (((a1 + (1 : Int32)) * (512 : Int32)) + a2)))))) z) ∧ (¬ 0 ≤ a2 → Q (.inl (some (.long (0 : Int64)))) z))
theorem am_X5_onward {K : Nat × (Nat → Int32)} {x : Nat} {z : tq_S} {Q : tq_O → tq_S → Prop} {a1 : Int32} {a2 : Int32} (h : wm_X5_onward a1 a2 z Q) : tq_M K 0 x mm_X5_onward [.ref 2, .int a1, .int a2] z Q := by
  unfold wm_X5_onward at h
  refine tq_enter (L := [.ref 2, .int a1, .int a2]) mf_X5_onward.1 rfl rfl (Nat.le_of_ble_eq_true rfl) ?_
  refine tq_s_iload_n (kk := 2) (by decide +kernel) rfl ?_
  refine tq_if_ge (off := 7) (tgt := 8) (by decide +kernel) (by decide +kernel) (fun hc => ?_) (fun hc => ?_)
  · replace h := h.1 hc
    refine tq_s_aload_n (kk := 0) (by decide +kernel) rfl ?_
    refine fg_5_19_2 rfl (by decide +kernel) ?_
    refine tq_s_iload_n (kk := 1) (by decide +kernel) rfl ?_
    refine tq_k_ic (n := 1) (v := (1 : Int32)) (by decide +kernel) kc_1 ?_
    refine tq_s_iadd (by decide +kernel) ?_
    refine tq_k_si (n := 512) (v := (512 : Int32)) (by decide +kernel) ks_512 ?_
    refine tq_s_imul (by decide +kernel) ?_
    refine tq_s_iload_n (kk := 2) (by decide +kernel) rfl ?_
    refine tq_s_iadd (by decide +kernel) ?_
    refine tq_s_lald (by decide +kernel) sh_4 h.1 ?_
    replace h := h.2
    exact tq_ret_l (st := []) (by decide +kernel) rfl h
  · replace h := h.2 hc
    refine tq_k_lc (n := 0) (v := (0 : Int64)) (by decide +kernel) (by decide +kernel) ?_
    refine tq_s_goto (off := 17) (tgt := 22) (by decide +kernel) (by decide +kernel) ?_
    exact tq_ret_l (st := []) (by decide +kernel) rfl h
def wb_X5_sumOnward_6 (B6 : Int64 → Int32 → tq_S → Prop) (Q : tq_O → tq_S → Prop) (a1 : Int32) (a2 : Int32) (a3 : Int32) (a4 : Int64) (a6 : Int32) (z : tq_S) : Prop := (((4 : Int32) ≤ a6 → Q (.inl (some (.long a4))) z) ∧ (¬ (4 : Int32) ≤ a6 → wm_X5_after a1 a2 a3 a6 z (tq_wi fun r102 z101 => wm_X5_onward a1 r102 z101 (tq_wl fun r104 z103 => ∀ v105 : Int64, v105 = (a4 + r104) → ∀ v106 : Int32, v106 = a6 + (1 : Int32) → B6 v105 v106 z103))))
def wc_X5_sumOnward_6 (Q : tq_O → tq_S → Prop) (a1 : Int32) (a2 : Int32) (a3 : Int32) (a4 : Int64) (a6 : Int32) (z : tq_S) : Prop := tq_lp (σ := Int64 × Int32 × tq_S) (fun B s => wb_X5_sumOnward_6 (fun b4 b6 z => B (b4, b6, z)) Q a1 a2 a3 s.1 s.2.1 s.2.2) (a4, a6, z)
theorem ab_X5_sumOnward_6 {K : Nat × (Nat → Int32)} {x : Nat} {Q : tq_O → tq_S → Prop} {B6 : Int64 → Int32 → tq_S → Prop} {a1 : Int32} {a2 : Int32} {a3 : Int32} {a4 : Int64} {a6 : Int32} {z : tq_S} (hB6 : ∀ (b4 : Int64) (b6 : Int32) (z : tq_S), B6 b4 b6 z → tq_T K 1 x mm_X5_sumOnward 6 [.ref 2, .int a1, .int a2, .int a3, .long b4, .null, .int b6] [] z Q) (h : wb_X5_sumOnward_6 B6 Q a1 a2 a3 a4 a6 z) : tq_T K 1 x mm_X5_sumOnward 6 [.ref 2, .int a1, .int a2, .int a3, .long a4, .null, .int a6] [] z Q := by
  unfold wb_X5_sumOnward_6 at h
  refine tq_s_iload (i := 6) (by decide +kernel) rfl ?_
  refine tq_k_ic (n := 4) (v := (4 : Int32)) (by decide +kernel) kc_4 ?_
  refine tq_icmp_ge (off := 28) (tgt := 37) (by decide +kernel) (by decide +kernel) (fun hc => ?_) (fun hc => ?_)
  · replace h := h.1 hc
    refine tq_s_lload (i := 4) (by decide +kernel) rfl ?_
    exact tq_ret_l (st := []) (by decide +kernel) rfl h
  · replace h := h.2 hc
    refine tq_s_lload (i := 4) (by decide +kernel) rfl ?_
    refine tq_s_aload_n (kk := 0) (by decide +kernel) rfl ?_
    refine tq_s_iload_n (kk := 1) (by decide +kernel) rfl ?_
    refine tq_s_aload_n (kk := 0) (by decide +kernel) rfl ?_
    refine tq_s_iload_n (kk := 1) (by decide +kernel) rfl ?_
    refine tq_s_iload_n (kk := 2) (by decide +kernel) rfl ?_
    refine tq_s_iload_n (kk := 3) (by decide +kernel) rfl ?_
    refine tq_s_iload (i := 6) (by decide +kernel) rfl ?_
    refine tq_callV (as := [.int a1, .int a2, .int a3, .int a6]) (st := [.int a1, .ref 2, .long a4]) (d1 := 0) (x1 := 0) (x2 := x) (by decide +kernel) ln_5_81 mf_X5_after rfl sh_2 rfl (by decide) np_X5_after rfl (Nat.le_of_ble_eq_true rfl) (by decide) (Nat.zero_add _).symm (tq_M_mono (am_X5_after h) ?_)
    refine tq_wi_e (fun r102 z101 h => ?_)
    refine tq_callV (as := [.int a1, .int r102]) (st := [.long a4]) (d1 := 0) (x1 := 0) (x2 := x) (by decide +kernel) ln_5_85 mf_X5_onward rfl sh_2 rfl (by decide) np_X5_onward rfl (Nat.le_of_ble_eq_true rfl) (by decide) (Nat.zero_add _).symm (tq_M_mono (am_X5_onward h) ?_)
    refine tq_wl_e (fun r104 z103 h => ?_)
    refine tq_s_ladd (by decide +kernel) ?_
    refine tq_g_lstore (i := 4) (fun v105 => [.ref 2, .int a1, .int a2, .int a3, .long v105, .null, .int a6]) (by decide +kernel) (by decide) (fun _ => rfl) (fun v105 ev105 => ?_)
    replace h := h v105 ev105
    refine tq_g_iinc (i := 6) (fun v106 => [.ref 2, .int a1, .int a2, .int a3, .long v105, .null, .int v106]) (by decide +kernel) rfl (1 : Int32) kc_1 (fun _ => rfl) (fun v106 ev106 => ?_)
    replace h := h v106 ev106
    refine tq_s_goto (off := -28) (tgt := 6) (by decide +kernel) (by decide +kernel) ?_
    exact hB6 _ _ _ h
theorem ac_X5_sumOnward_6 {K : Nat × (Nat → Int32)} {x : Nat} {Q : tq_O → tq_S → Prop} {a1 : Int32} {a2 : Int32} {a3 : Int32} {a4 : Int64} {a6 : Int32} {z : tq_S} (h : wc_X5_sumOnward_6 Q a1 a2 a3 a4 a6 z) : tq_T K 1 x mm_X5_sumOnward 6 [.ref 2, .int a1, .int a2, .int a3, .long a4, .null, .int a6] [] z Q :=
  tq_lp_T (σ := Int64 × Int32 × tq_S) (s := (a4, a6, z)) (G := fun s => tq_T K 1 x mm_X5_sumOnward 6 [.ref 2, .int a1, .int a2, .int a3, .long s.1, .null, .int s.2.1] [] s.2.2 Q) (fun B hB s h => ab_X5_sumOnward_6 (fun b4 b6 z h => hB (b4, b6, z) h) h) h
def wm_X5_sumOnward (a1 : Int32) (a2 : Int32) (a3 : Int32) (z : tq_S) (Q : tq_O → tq_S → Prop) : Prop := wc_X5_sumOnward_6 Q a1 a2 a3 (0 : Int64) (0 : Int32) z
theorem am_X5_sumOnward {K : Nat × (Nat → Int32)} {x : Nat} {z : tq_S} {Q : tq_O → tq_S → Prop} {a1 : Int32} {a2 : Int32} {a3 : Int32} (h : wm_X5_sumOnward a1 a2 a3 z Q) : tq_M K 1 x mm_X5_sumOnward [.ref 2, .int a1, .int a2, .int a3] z Q := by
  unfold wm_X5_sumOnward at h
  refine tq_enter (L := [.ref 2, .int a1, .int a2, .int a3, .null, .null, .null]) mf_X5_sumOnward.1 rfl rfl (Nat.le_of_ble_eq_true rfl) ?_
  refine tq_k_lc (n := 0) (v := (0 : Int64)) (by decide +kernel) (by decide +kernel) ?_
  refine tq_s_lstore (i := 4) (L9 := [.ref 2, .int a1, .int a2, .int a3, .long (0 : Int64), .null, .null]) (by decide +kernel) (by decide) rfl ?_
  refine tq_k_ic (n := 0) (v := (0 : Int32)) (by decide +kernel) kc_0 ?_
  refine tq_s_istore (i := 6) (L9 := [.ref 2, .int a1, .int a2, .int a3, .long (0 : Int64), .null, .int (0 : Int32)]) (by decide +kernel) (by decide) rfl ?_
  exact ac_X5_sumOnward_6 h
def wc_X5_prepareRow_172 (B51 : Int32 → tq_S → Prop) (B94 : Int32 → tq_S → Prop) (Q : tq_O → tq_S → Prop) (a1 : Int32) (a2 : Int32) (a3 : Int32) (a4 : Int32) (a5 : Int32) (a6 : Int32) (a7 : Int32) (z : tq_S) : Prop := ∀ v101 : Int32, v101 = a7 + (1 : Int32) → B94 v101 z
theorem ac_X5_prepareRow_172 {K : Nat × (Nat → Int32)} {x : Nat} {Q : tq_O → tq_S → Prop} {B51 : Int32 → tq_S → Prop} {B94 : Int32 → tq_S → Prop} {a1 : Int32} {a2 : Int32} {a3 : Int32} {a4 : Int32} {a5 : Int32} {a6 : Int32} {a7 : Int32} {z : tq_S} (hB51 : ∀ (b4 : Int32) (z : tq_S), B51 b4 z → tq_T K 2 x mm_X5_prepareRow 51 [.ref 2, .int a1, .int a2, .int a3, .int b4, .null, .null, .null, .null] [] z Q) (hB94 : ∀ (b7 : Int32) (z : tq_S), B94 b7 z → tq_T K 2 x mm_X5_prepareRow 94 [.ref 2, .int a1, .int a2, .int a3, .int a4, .int a5, .int a6, .int b7, .null] [] z Q) (h : wc_X5_prepareRow_172 B51 B94 Q a1 a2 a3 a4 a5 a6 a7 z) : tq_T K 2 x mm_X5_prepareRow 172 [.ref 2, .int a1, .int a2, .int a3, .int a4, .int a5, .int a6, .int a7, .null] [] z Q := by
  unfold wc_X5_prepareRow_172 at h
  refine tq_g_iinc (i := 7) (fun v101 => [.ref 2, .int a1, .int a2, .int a3, .int a4, .int a5, .int a6, .int v101, .null]) (by decide +kernel) rfl (1 : Int32) kc_1 (fun _ => rfl) (fun v101 ev101 => ?_)
  replace h := h v101 ev101
  refine tq_s_goto (off := -81) (tgt := 94) (by decide +kernel) (by decide +kernel) ?_
  exact hB94 _ _ h
def wc_X5_prepareRow_178 (B51 : Int32 → tq_S → Prop) (Q : tq_O → tq_S → Prop) (a1 : Int32) (a2 : Int32) (a3 : Int32) (a4 : Int32) (z : tq_S) : Prop := ∀ v101 : Int32, v101 = a4 + (-1 : Int32) → B51 v101 z
theorem ac_X5_prepareRow_178 {K : Nat × (Nat → Int32)} {x : Nat} {Q : tq_O → tq_S → Prop} {B51 : Int32 → tq_S → Prop} {a1 : Int32} {a2 : Int32} {a3 : Int32} {a4 : Int32} {z : tq_S} (hB51 : ∀ (b4 : Int32) (z : tq_S), B51 b4 z → tq_T K 2 x mm_X5_prepareRow 51 [.ref 2, .int a1, .int a2, .int a3, .int b4, .null, .null, .null, .null] [] z Q) (h : wc_X5_prepareRow_178 B51 Q a1 a2 a3 a4 z) : tq_T K 2 x mm_X5_prepareRow 178 [.ref 2, .int a1, .int a2, .int a3, .int a4, .null, .null, .null, .null] [] z Q := by
  unfold wc_X5_prepareRow_178 at h
  refine tq_g_iinc (i := 4) (fun v101 => [.ref 2, .int a1, .int a2, .int a3, .int v101, .null, .null, .null, .null]) (by decide +kernel) rfl (-1 : Int32) kc_m1 (fun _ => rfl) (fun v101 ev101 => ?_)
  replace h := h v101 ev101
  refine tq_s_goto (off := -130) (tgt := 51) (by decide +kernel) (by decide +kernel) ?_
  exact hB51 _ _ h
def wb_X5_prepareRow_94 (B51 : Int32 → tq_S → Prop) (B94 : Int32 → tq_S → Prop) (Q : tq_O → tq_S → Prop) (a1 : Int32) (a2 : Int32) (a3 : Int32) (a4 : Int32) (a5 : Int32) (a6 : Int32) (a7 : Int32) (z : tq_S) : Prop := ((a5 ≤ a7 → wc_X5_prepareRow_178 B51 Q a1 a2 a3 a4 z) ∧ (¬ a5 ≤ a7 → ∀ v101 : Int32, v101 = (a6 ||| a7) → wm_X5_sumOnward a4 a1 v101 z (tq_wl fun r103 z102 => vp_in ((a4 * (512 : Int32)) + v101) 4608 ∧ ∀ z104 : tq_S, z104 = tq_sal z102 4 (vp_updL (tq_al z102 4) (Int32.toNatClampNeg ((a4 * (512 : Int32)) + v101)) r103) → (((tq_fi z104 66) = 0 → wc_X5_prepareRow_172 B51 B94 Q a1 a2 a3 a4 a5 a6 a7 z104) ∧ (¬ (tq_fi z104 66) = 0 → wm_X5_sumOnward a4 a1 (v101 + (256 : Int32)) z104 (tq_wl fun r106 z105 => vp_in (((a4 * (512 : Int32)) + v101) + (256 : Int32)) 4608 ∧ ∀ z107 : tq_S, z107 = tq_sal z105 4 (vp_updL (tq_al z105 4) (Int32.toNatClampNeg (((a4 * (512 : Int32)) + v101) + (256 : Int32))) r106) → wc_X5_prepareRow_172 B51 B94 Q a1 a2 a3 a4 a5 a6 a7 z107))))))
def wc_X5_prepareRow_94 (B51 : Int32 → tq_S → Prop) (Q : tq_O → tq_S → Prop) (a1 : Int32) (a2 : Int32) (a3 : Int32) (a4 : Int32) (a5 : Int32) (a6 : Int32) (a7 : Int32) (z : tq_S) : Prop := tq_lp (σ := Int32 × tq_S) (fun B s => wb_X5_prepareRow_94 B51 (fun b7 z => B (b7, z)) Q a1 a2 a3 a4 a5 a6 s.1 s.2) (a7, z)
theorem ab_X5_prepareRow_94 {K : Nat × (Nat → Int32)} {x : Nat} {Q : tq_O → tq_S → Prop} {B51 : Int32 → tq_S → Prop} {B94 : Int32 → tq_S → Prop} {a1 : Int32} {a2 : Int32} {a3 : Int32} {a4 : Int32} {a5 : Int32} {a6 : Int32} {a7 : Int32} {z : tq_S} (hB51 : ∀ (b4 : Int32) (z : tq_S), B51 b4 z → tq_T K 2 x mm_X5_prepareRow 51 [.ref 2, .int a1, .int a2, .int a3, .int b4, .null, .null, .null, .null] [] z Q) (hB94 : ∀ (b7 : Int32) (z : tq_S), B94 b7 z → tq_T K 2 x mm_X5_prepareRow 94 [.ref 2, .int a1, .int a2, .int a3, .int a4, .int a5, .int a6, .int b7, .null] [] z Q) (h : wb_X5_prepareRow_94 B51 B94 Q a1 a2 a3 a4 a5 a6 a7 z) : tq_T K 2 x mm_X5_prepareRow 94 [.ref 2, .int a1, .int a2, .int a3, .int a4, .int a5, .int a6, .int a7, .null] [] z Q := by
  unfold wb_X5_prepareRow_94 at h
  refine tq_s_iload (i := 7) (by decide +kernel) rfl ?_
  refine tq_s_iload (i := 5) (by decide +kernel) rfl ?_
  refine tq_icmp_ge (off := 80) (tgt := 178) (by decide +kernel) (by decide +kernel) (fun hc => ?_) (fun hc => ?_)
  · replace h := h.1 hc
    exact tq_to (tq_lk1 (tq_lk1 (tq_lk1 (tq_lk1 (tq_lk1 (tq_ld1 (tq_ld1 (tq_ld1 (tq_lk1 tq_l0))))))))) (ac_X5_prepareRow_178 hB51 h)
  · replace h := h.2 hc
    refine tq_s_iload (i := 6) (by decide +kernel) rfl ?_
    refine tq_s_iload (i := 7) (by decide +kernel) rfl ?_
    refine tq_s_ior (by decide +kernel) ?_
    refine tq_g_istore (i := 8) (fun v101 => [.ref 2, .int a1, .int a2, .int a3, .int a4, .int a5, .int a6, .int a7, .int v101]) (by decide +kernel) (by decide) (fun _ => rfl) (fun v101 ev101 => ?_)
    replace h := h v101 ev101
    refine tq_s_aload_n (kk := 0) (by decide +kernel) rfl ?_
    refine fg_5_19_2 rfl (by decide +kernel) ?_
    refine tq_s_iload (i := 4) (by decide +kernel) rfl ?_
    refine tq_k_si (n := 512) (v := (512 : Int32)) (by decide +kernel) ks_512 ?_
    refine tq_s_imul (by decide +kernel) ?_
    refine tq_s_iload (i := 8) (by decide +kernel) rfl ?_
    refine tq_s_iadd (by decide +kernel) ?_
    refine tq_s_aload_n (kk := 0) (by decide +kernel) rfl ?_
    refine tq_s_iload (i := 4) (by decide +kernel) rfl ?_
    refine tq_s_iload_n (kk := 1) (by decide +kernel) rfl ?_
    refine tq_s_iload (i := 8) (by decide +kernel) rfl ?_
    refine tq_callV (as := [.int a4, .int a1, .int v101]) (st := [.int ((a4 * (512 : Int32)) + v101), .ref 4]) (d1 := 1) (x1 := 0) (x2 := x) (by decide +kernel) ln_5_77 mf_X5_sumOnward rfl sh_2 rfl (by decide) np_X5_sumOnward rfl (Nat.le_of_ble_eq_true rfl) (by decide) (Nat.zero_add _).symm (tq_M_mono (am_X5_sumOnward h) ?_)
    refine tq_wl_e (fun r103 z102 h => ?_)
    refine tq_g_last (by decide +kernel) sh_4 h.1 (fun z104 ez104 => ?_)
    replace h := h.2 z104 ez104
    refine tq_s_aload_n (kk := 0) (by decide +kernel) rfl ?_
    refine fg_5_7_2 rfl (by decide +kernel) ?_
    refine fg_5_54_1 rfl (by decide +kernel) ?_
    refine tq_if_eq (off := 34) (tgt := 172) (by decide +kernel) (by decide +kernel) (fun hc => ?_) (fun hc => ?_)
    · replace h := h.1 hc
      exact tq_to (tq_lk1 (tq_lk1 (tq_lk1 (tq_lk1 (tq_lk1 (tq_lk1 (tq_lk1 (tq_lk1 (tq_ld1 tq_l0))))))))) (ac_X5_prepareRow_172 hB51 hB94 h)
    · replace h := h.2 hc
      refine tq_s_aload_n (kk := 0) (by decide +kernel) rfl ?_
      refine fg_5_19_2 rfl (by decide +kernel) ?_
      refine tq_s_iload (i := 4) (by decide +kernel) rfl ?_
      refine tq_k_si (n := 512) (v := (512 : Int32)) (by decide +kernel) ks_512 ?_
      refine tq_s_imul (by decide +kernel) ?_
      refine tq_s_iload (i := 8) (by decide +kernel) rfl ?_
      refine tq_s_iadd (by decide +kernel) ?_
      refine tq_k_si (n := 256) (v := (256 : Int32)) (by decide +kernel) ks_256 ?_
      refine tq_s_iadd (by decide +kernel) ?_
      refine tq_s_aload_n (kk := 0) (by decide +kernel) rfl ?_
      refine tq_s_iload (i := 4) (by decide +kernel) rfl ?_
      refine tq_s_iload_n (kk := 1) (by decide +kernel) rfl ?_
      refine tq_s_iload (i := 8) (by decide +kernel) rfl ?_
      refine tq_k_si (n := 256) (v := (256 : Int32)) (by decide +kernel) ks_256 ?_
      refine tq_s_iadd (by decide +kernel) ?_
      refine tq_callV (as := [.int a4, .int a1, .int (v101 + (256 : Int32))]) (st := [.int (((a4 * (512 : Int32)) + v101) + (256 : Int32)), .ref 4]) (d1 := 1) (x1 := 0) (x2 := x) (by decide +kernel) ln_5_77 mf_X5_sumOnward rfl sh_2 rfl (by decide) np_X5_sumOnward rfl (Nat.le_of_ble_eq_true rfl) (by decide) (Nat.zero_add _).symm (tq_M_mono (am_X5_sumOnward h) ?_)
      refine tq_wl_e (fun r106 z105 h => ?_)
      refine tq_g_last (by decide +kernel) sh_4 h.1 (fun z107 ez107 => ?_)
      replace h := h.2 z107 ez107
      exact tq_to (tq_lk1 (tq_lk1 (tq_lk1 (tq_lk1 (tq_lk1 (tq_lk1 (tq_lk1 (tq_lk1 (tq_ld1 tq_l0))))))))) (ac_X5_prepareRow_172 hB51 hB94 h)
theorem ac_X5_prepareRow_94 {K : Nat × (Nat → Int32)} {x : Nat} {Q : tq_O → tq_S → Prop} {B51 : Int32 → tq_S → Prop} {a1 : Int32} {a2 : Int32} {a3 : Int32} {a4 : Int32} {a5 : Int32} {a6 : Int32} {a7 : Int32} {z : tq_S} (hB51 : ∀ (b4 : Int32) (z : tq_S), B51 b4 z → tq_T K 2 x mm_X5_prepareRow 51 [.ref 2, .int a1, .int a2, .int a3, .int b4, .null, .null, .null, .null] [] z Q) (h : wc_X5_prepareRow_94 B51 Q a1 a2 a3 a4 a5 a6 a7 z) : tq_T K 2 x mm_X5_prepareRow 94 [.ref 2, .int a1, .int a2, .int a3, .int a4, .int a5, .int a6, .int a7, .null] [] z Q :=
  tq_lp_T (σ := Int32 × tq_S) (s := (a7, z)) (G := fun s => tq_T K 2 x mm_X5_prepareRow 94 [.ref 2, .int a1, .int a2, .int a3, .int a4, .int a5, .int a6, .int s.1, .null] [] s.2 Q) (fun B hB s h => ab_X5_prepareRow_94 hB51 (fun b7 z h => hB (b7, z) h) h) h
def wc_X5_prepareRow_89 (B51 : Int32 → tq_S → Prop) (Q : tq_O → tq_S → Prop) (a1 : Int32) (a2 : Int32) (a3 : Int32) (a4 : Int32) (a5 : Int32) (s0 : Int32) (z : tq_S) : Prop := wc_X5_prepareRow_94 B51 Q a1 a2 a3 a4 a5 s0 (0 : Int32) z
theorem ac_X5_prepareRow_89 {K : Nat × (Nat → Int32)} {x : Nat} {Q : tq_O → tq_S → Prop} {B51 : Int32 → tq_S → Prop} {a1 : Int32} {a2 : Int32} {a3 : Int32} {a4 : Int32} {a5 : Int32} {s0 : Int32} {z : tq_S} (hB51 : ∀ (b4 : Int32) (z : tq_S), B51 b4 z → tq_T K 2 x mm_X5_prepareRow 51 [.ref 2, .int a1, .int a2, .int a3, .int b4, .null, .null, .null, .null] [] z Q) (h : wc_X5_prepareRow_89 B51 Q a1 a2 a3 a4 a5 s0 z) : tq_T K 2 x mm_X5_prepareRow 89 [.ref 2, .int a1, .int a2, .int a3, .int a4, .int a5, .null, .null, .null] [.int s0] z Q := by
  unfold wc_X5_prepareRow_89 at h
  refine tq_s_istore (i := 6) (L9 := [.ref 2, .int a1, .int a2, .int a3, .int a4, .int a5, .int s0, .null, .null]) (by decide +kernel) (by decide) rfl ?_
  refine tq_k_ic (n := 0) (v := (0 : Int32)) (by decide +kernel) kc_0 ?_
  refine tq_s_istore (i := 7) (L9 := [.ref 2, .int a1, .int a2, .int a3, .int a4, .int a5, .int s0, .int (0 : Int32), .null]) (by decide +kernel) (by decide) rfl ?_
  exact ac_X5_prepareRow_94 hB51 h
def wc_X5_prepareRow_69 (B51 : Int32 → tq_S → Prop) (Q : tq_O → tq_S → Prop) (a1 : Int32) (a2 : Int32) (a3 : Int32) (a4 : Int32) (s0 : Int32) (z : tq_S) : Prop := ((¬ a2 = (-1 : Int32) → wc_X5_prepareRow_89 B51 Q a1 a2 a3 a4 s0 ((a2 &&& (-s0)) &&& (255 : Int32)) z) ∧ (a2 = (-1 : Int32) → wc_X5_prepareRow_89 B51 Q a1 a2 a3 a4 s0 (0 : Int32) z))
theorem ac_X5_prepareRow_69 {K : Nat × (Nat → Int32)} {x : Nat} {Q : tq_O → tq_S → Prop} {B51 : Int32 → tq_S → Prop} {a1 : Int32} {a2 : Int32} {a3 : Int32} {a4 : Int32} {s0 : Int32} {z : tq_S} (hB51 : ∀ (b4 : Int32) (z : tq_S), B51 b4 z → tq_T K 2 x mm_X5_prepareRow 51 [.ref 2, .int a1, .int a2, .int a3, .int b4, .null, .null, .null, .null] [] z Q) (h : wc_X5_prepareRow_69 B51 Q a1 a2 a3 a4 s0 z) : tq_T K 2 x mm_X5_prepareRow 69 [.ref 2, .int a1, .int a2, .int a3, .int a4, .null, .null, .null, .null] [.int s0] z Q := by
  unfold wc_X5_prepareRow_69 at h
  refine tq_s_istore (i := 5) (L9 := [.ref 2, .int a1, .int a2, .int a3, .int a4, .int s0, .null, .null, .null]) (by decide +kernel) (by decide) rfl ?_
  refine tq_s_iload_n (kk := 2) (by decide +kernel) rfl ?_
  refine tq_k_ic (n := -1) (v := (-1 : Int32)) (by decide +kernel) kc_m1 ?_
  refine tq_icmp_ne (off := 7) (tgt := 80) (by decide +kernel) (by decide +kernel) (fun hc => ?_) (fun hc => ?_)
  · replace h := h.1 hc
    refine tq_s_iload_n (kk := 2) (by decide +kernel) rfl ?_
    refine tq_s_iload (i := 5) (by decide +kernel) rfl ?_
    refine tq_s_ineg (by decide +kernel) ?_
    refine tq_s_iand (by decide +kernel) ?_
    refine tq_k_si (n := 255) (v := (255 : Int32)) (by decide +kernel) ks_255 ?_
    refine tq_s_iand (by decide +kernel) ?_
    exact ac_X5_prepareRow_89 hB51 h
  · replace h := h.2 hc
    refine tq_k_ic (n := 0) (v := (0 : Int32)) (by decide +kernel) kc_0 ?_
    refine tq_s_goto (off := 12) (tgt := 89) (by decide +kernel) (by decide +kernel) ?_
    exact ac_X5_prepareRow_89 hB51 h
def wb_X5_prepareRow_51 (B51 : Int32 → tq_S → Prop) (Q : tq_O → tq_S → Prop) (a1 : Int32) (a2 : Int32) (a3 : Int32) (a4 : Int32) (z : tq_S) : Prop := ((a4 < 0 → Q (.inl none) z) ∧ (¬ a4 < 0 → ((¬ a2 = (-1 : Int32) → wc_X5_prepareRow_69 B51 Q a1 a2 a3 a4 ((2 : Int32) <<< (a4 &&& 31)) z) ∧ (a2 = (-1 : Int32) → wc_X5_prepareRow_69 B51 Q a1 a2 a3 a4 a3 z))))
def wc_X5_prepareRow_51 (Q : tq_O → tq_S → Prop) (a1 : Int32) (a2 : Int32) (a3 : Int32) (a4 : Int32) (z : tq_S) : Prop := tq_lp (σ := Int32 × tq_S) (fun B s => wb_X5_prepareRow_51 (fun b4 z => B (b4, z)) Q a1 a2 a3 s.1 s.2) (a4, z)
theorem ab_X5_prepareRow_51 {K : Nat × (Nat → Int32)} {x : Nat} {Q : tq_O → tq_S → Prop} {B51 : Int32 → tq_S → Prop} {a1 : Int32} {a2 : Int32} {a3 : Int32} {a4 : Int32} {z : tq_S} (hB51 : ∀ (b4 : Int32) (z : tq_S), B51 b4 z → tq_T K 2 x mm_X5_prepareRow 51 [.ref 2, .int a1, .int a2, .int a3, .int b4, .null, .null, .null, .null] [] z Q) (h : wb_X5_prepareRow_51 B51 Q a1 a2 a3 a4 z) : tq_T K 2 x mm_X5_prepareRow 51 [.ref 2, .int a1, .int a2, .int a3, .int a4, .null, .null, .null, .null] [] z Q := by
  unfold wb_X5_prepareRow_51 at h
  refine tq_s_iload (i := 4) (by decide +kernel) rfl ?_
  refine tq_if_lt (off := 131) (tgt := 184) (by decide +kernel) (by decide +kernel) (fun hc => ?_) (fun hc => ?_)
  · replace h := h.1 hc
    exact tq_ret_v (st := []) (by decide +kernel) rfl h
  · replace h := h.2 hc
    refine tq_s_iload_n (kk := 2) (by decide +kernel) rfl ?_
    refine tq_k_ic (n := -1) (v := (-1 : Int32)) (by decide +kernel) kc_m1 ?_
    refine tq_icmp_ne (off := 7) (tgt := 65) (by decide +kernel) (by decide +kernel) (fun hc => ?_) (fun hc => ?_)
    · replace h := h.1 hc
      refine tq_k_ic (n := 2) (v := (2 : Int32)) (by decide +kernel) kc_2 ?_
      refine tq_s_iload (i := 4) (by decide +kernel) rfl ?_
      refine tq_s_ishl (by decide +kernel) ?_
      exact ac_X5_prepareRow_69 hB51 h
    · replace h := h.2 hc
      refine tq_s_iload_n (kk := 3) (by decide +kernel) rfl ?_
      refine tq_s_goto (off := 7) (tgt := 69) (by decide +kernel) (by decide +kernel) ?_
      exact ac_X5_prepareRow_69 hB51 h
theorem ac_X5_prepareRow_51 {K : Nat × (Nat → Int32)} {x : Nat} {Q : tq_O → tq_S → Prop} {a1 : Int32} {a2 : Int32} {a3 : Int32} {a4 : Int32} {z : tq_S} (h : wc_X5_prepareRow_51 Q a1 a2 a3 a4 z) : tq_T K 2 x mm_X5_prepareRow 51 [.ref 2, .int a1, .int a2, .int a3, .int a4, .null, .null, .null, .null] [] z Q :=
  tq_lp_T (σ := Int32 × tq_S) (s := (a4, z)) (G := fun s => tq_T K 2 x mm_X5_prepareRow 51 [.ref 2, .int a1, .int a2, .int a3, .int s.1, .null, .null, .null, .null] [] s.2 Q) (fun B hB s h => ab_X5_prepareRow_51 (fun b4 z h => hB (b4, z) h) h) h
def wm_X5_prepareRow (a1 : Int32) (a2 : Int32) (z : tq_S) (Q : tq_O → tq_S → Prop) : Prop := ∀ v1 : Int32, v1 = ((1 : Int32) <<< ((tq_fi z 64) &&& 31)) → (¬ ((a1 + (1 : Int32)) * (256 : Int32)) < 0) ∧ (¬ ((tq_fi z 64) * (512 : Int32)) < 0) ∧ (¬ v1 < 0) ∧ (Int32.toNatClampNeg ((a1 + (1 : Int32)) * (256 : Int32)) + Int32.toNatClampNeg v1 ≤ 2304) ∧ (Int32.toNatClampNeg ((tq_fi z 64) * (512 : Int32)) + Int32.toNatClampNeg v1 ≤ 4608) ∧ ∀ z2 : tq_S, z2 = tq_sal z 4 (va_cpy (tq_al z 3) (tq_al z 4) (Int32.toNatClampNeg ((a1 + (1 : Int32)) * (256 : Int32))) (Int32.toNatClampNeg ((tq_fi z 64) * (512 : Int32))) (Int32.toNatClampNeg v1)) → ∀ v3 : Int32, v3 = ((tq_fi z2 64) - (1 : Int32)) → wc_X5_prepareRow_51 Q a1 a2 v1 v3 z2
theorem am_X5_prepareRow {K : Nat × (Nat → Int32)} {x : Nat} {z : tq_S} {Q : tq_O → tq_S → Prop} {a1 : Int32} {a2 : Int32} (h : wm_X5_prepareRow a1 a2 z Q) : tq_M K 2 x mm_X5_prepareRow [.ref 2, .int a1, .int a2] z Q := by
  unfold wm_X5_prepareRow at h
  refine tq_enter (L := [.ref 2, .int a1, .int a2, .null, .null, .null, .null, .null, .null]) mf_X5_prepareRow.1 rfl rfl (Nat.le_of_ble_eq_true rfl) ?_
  refine tq_k_ic (n := 1) (v := (1 : Int32)) (by decide +kernel) kc_1 ?_
  refine tq_s_aload_n (kk := 0) (by decide +kernel) rfl ?_
  refine fg_5_7_2 rfl (by decide +kernel) ?_
  refine fg_5_48_1 rfl (by decide +kernel) ?_
  refine tq_s_ishl (by decide +kernel) ?_
  refine tq_g_istore_n (kk := 3) (fun v1 => [.ref 2, .int a1, .int a2, .int v1, .null, .null, .null, .null, .null]) (by decide +kernel) (by decide) (fun _ => rfl) (fun v1 ev1 => ?_)
  replace h := h v1 ev1
  refine tq_s_aload_n (kk := 0) (by decide +kernel) rfl ?_
  refine fg_5_15_2 rfl (by decide +kernel) ?_
  refine tq_s_iload_n (kk := 1) (by decide +kernel) rfl ?_
  refine tq_k_ic (n := 1) (v := (1 : Int32)) (by decide +kernel) kc_1 ?_
  refine tq_s_iadd (by decide +kernel) ?_
  refine tq_k_si (n := 256) (v := (256 : Int32)) (by decide +kernel) ks_256 ?_
  refine tq_s_imul (by decide +kernel) ?_
  refine tq_s_aload_n (kk := 0) (by decide +kernel) rfl ?_
  refine fg_5_19_2 rfl (by decide +kernel) ?_
  refine tq_s_aload_n (kk := 0) (by decide +kernel) rfl ?_
  refine fg_5_7_2 rfl (by decide +kernel) ?_
  refine fg_5_48_1 rfl (by decide +kernel) ?_
  refine tq_k_si (n := 512) (v := (512 : Int32)) (by decide +kernel) ks_512 ?_
  refine tq_s_imul (by decide +kernel) ?_
  refine tq_s_iload_n (kk := 3) (by decide +kernel) rfl ?_
  refine tq_g_acopyl (by decide +kernel) la_5_71 sh_3 sh_4 h.1 h.2.1 h.2.2.1 h.2.2.2.1 h.2.2.2.2.1 (Nat.le_of_ble_eq_true rfl) (fun z2 ez2 => ?_)
  replace h := h.2.2.2.2.2 z2 ez2
  refine tq_s_aload_n (kk := 0) (by decide +kernel) rfl ?_
  refine fg_5_7_2 rfl (by decide +kernel) ?_
  refine fg_5_48_1 rfl (by decide +kernel) ?_
  refine tq_k_ic (n := 1) (v := (1 : Int32)) (by decide +kernel) kc_1 ?_
  refine tq_s_isub (by decide +kernel) ?_
  refine tq_g_istore (i := 4) (fun v3 => [.ref 2, .int a1, .int a2, .int v1, .int v3, .null, .null, .null, .null]) (by decide +kernel) (by decide) (fun _ => rfl) (fun v3 ev3 => ?_)
  replace h := h v3 ev3
  exact ac_X5_prepareRow_51 h
def wc_X5_total_102 (Q : tq_O → tq_S → Prop)  (z : tq_S) : Prop := Q (.inl (some (.long (tq_al z 3 (Int32.toNatClampNeg (0 : Int32)))))) z
theorem ac_X5_total_102 {K : Nat × (Nat → Int32)} {x : Nat} {Q : tq_O → tq_S → Prop}  {z : tq_S} (h : wc_X5_total_102 Q z) : tq_T K 3 x mm_X5_total 102 [.ref 2, .null] [] z Q := by
  unfold wc_X5_total_102 at h
  refine tq_s_aload_n (kk := 0) (by decide +kernel) rfl ?_
  refine fg_5_15_2 rfl (by decide +kernel) ?_
  refine tq_k_ic (n := 0) (v := (0 : Int32)) (by decide +kernel) kc_0 ?_
  refine tq_s_lald (by decide +kernel) sh_3 vi_0_2304 ?_
  exact tq_ret_l (st := []) (by decide +kernel) rfl h
def wc_X5_total_91 (Q : tq_O → tq_S → Prop)  (z : tq_S) : Prop := ∀ z101 : tq_S, z101 = tq_sfi z 134 (tq_fi z 68) → wc_X5_total_102 Q z101
theorem ac_X5_total_91 {K : Nat × (Nat → Int32)} {x : Nat} {Q : tq_O → tq_S → Prop}  {z : tq_S} (h : wc_X5_total_91 Q z) : tq_T K 3 x mm_X5_total 91 [.ref 2, .null] [] z Q := by
  unfold wc_X5_total_91 at h
  refine tq_s_aload_n (kk := 0) (by decide +kernel) rfl ?_
  refine tq_s_aload_n (kk := 0) (by decide +kernel) rfl ?_
  refine fg_5_7_2 rfl (by decide +kernel) ?_
  refine fg_5_58_1 rfl (by decide +kernel) ?_
  refine fp_5_31_2 rfl (by decide +kernel) (fun z101 ez101 => ?_)
  replace h := h z101 ez101
  exact ac_X5_total_102 h
def wb_X5_total_49 (B49 : Int32 → tq_S → Prop) (Q : tq_O → tq_S → Prop) (a1 : Int32) (z : tq_S) : Prop := ((a1 < 0 → wc_X5_total_91 Q z) ∧ (¬ a1 < 0 → wm_X5_prepareRow a1 (-1 : Int32) z (tq_wv fun z101 => (¬ (0 : Int32) < 0) ∧ (¬ (a1 * (256 : Int32)) < 0) ∧ (¬ ((1 : Int32) <<< ((tq_fi z101 64) &&& 31)) < 0) ∧ (Int32.toNatClampNeg (0 : Int32) + Int32.toNatClampNeg ((1 : Int32) <<< ((tq_fi z101 64) &&& 31)) ≤ 4608) ∧ (Int32.toNatClampNeg (a1 * (256 : Int32)) + Int32.toNatClampNeg ((1 : Int32) <<< ((tq_fi z101 64) &&& 31)) ≤ 2304) ∧ ∀ z102 : tq_S, z102 = tq_sal z101 3 (va_cpy (tq_al z101 4) (tq_al z101 3) (Int32.toNatClampNeg (0 : Int32)) (Int32.toNatClampNeg (a1 * (256 : Int32))) (Int32.toNatClampNeg ((1 : Int32) <<< ((tq_fi z101 64) &&& 31)))) → ∀ v103 : Int32, v103 = a1 + (-1 : Int32) → B49 v103 z102)))
def wc_X5_total_49 (Q : tq_O → tq_S → Prop) (a1 : Int32) (z : tq_S) : Prop := tq_lp (σ := Int32 × tq_S) (fun B s => wb_X5_total_49 (fun b1 z => B (b1, z)) Q s.1 s.2) (a1, z)
theorem ab_X5_total_49 {K : Nat × (Nat → Int32)} {x : Nat} {Q : tq_O → tq_S → Prop} {B49 : Int32 → tq_S → Prop} {a1 : Int32} {z : tq_S} (hB49 : ∀ (b1 : Int32) (z : tq_S), B49 b1 z → tq_T K 3 x mm_X5_total 49 [.ref 2, .int b1] [] z Q) (h : wb_X5_total_49 B49 Q a1 z) : tq_T K 3 x mm_X5_total 49 [.ref 2, .int a1] [] z Q := by
  unfold wb_X5_total_49 at h
  refine tq_s_iload_n (kk := 1) (by decide +kernel) rfl ?_
  refine tq_if_lt (off := 41) (tgt := 91) (by decide +kernel) (by decide +kernel) (fun hc => ?_) (fun hc => ?_)
  · replace h := h.1 hc
    exact tq_to (tq_lk1 (tq_ld1 tq_l0)) (ac_X5_total_91 h)
  · replace h := h.2 hc
    refine tq_s_aload_n (kk := 0) (by decide +kernel) rfl ?_
    refine tq_s_iload_n (kk := 1) (by decide +kernel) rfl ?_
    refine tq_k_ic (n := -1) (v := (-1 : Int32)) (by decide +kernel) kc_m1 ?_
    refine tq_callV (as := [.int a1, .int (-1 : Int32)]) (st := []) (d1 := 2) (x1 := 0) (x2 := x) (by decide +kernel) ln_5_67 mf_X5_prepareRow rfl sh_2 rfl (by decide) np_X5_prepareRow rfl (Nat.le_of_ble_eq_true rfl) (by decide) (Nat.zero_add _).symm (tq_M_mono (am_X5_prepareRow h) ?_)
    refine tq_wv_e (fun z101 h => ?_)
    refine tq_s_aload_n (kk := 0) (by decide +kernel) rfl ?_
    refine fg_5_19_2 rfl (by decide +kernel) ?_
    refine tq_k_ic (n := 0) (v := (0 : Int32)) (by decide +kernel) kc_0 ?_
    refine tq_s_aload_n (kk := 0) (by decide +kernel) rfl ?_
    refine fg_5_15_2 rfl (by decide +kernel) ?_
    refine tq_s_iload_n (kk := 1) (by decide +kernel) rfl ?_
    refine tq_k_si (n := 256) (v := (256 : Int32)) (by decide +kernel) ks_256 ?_
    refine tq_s_imul (by decide +kernel) ?_
    refine tq_k_ic (n := 1) (v := (1 : Int32)) (by decide +kernel) kc_1 ?_
    refine tq_s_aload_n (kk := 0) (by decide +kernel) rfl ?_
    refine fg_5_7_2 rfl (by decide +kernel) ?_
    refine fg_5_48_1 rfl (by decide +kernel) ?_
    refine tq_s_ishl (by decide +kernel) ?_
    refine tq_g_acopyl (by decide +kernel) la_5_71 sh_4 sh_3 h.1 h.2.1 h.2.2.1 h.2.2.2.1 h.2.2.2.2.1 (Nat.le_of_ble_eq_true rfl) (fun z102 ez102 => ?_)
    replace h := h.2.2.2.2.2 z102 ez102
    refine tq_g_iinc (i := 1) (fun v103 => [.ref 2, .int v103]) (by decide +kernel) rfl (-1 : Int32) kc_m1 (fun _ => rfl) (fun v103 ev103 => ?_)
    replace h := h v103 ev103
    refine tq_s_goto (off := -39) (tgt := 49) (by decide +kernel) (by decide +kernel) ?_
    exact hB49 _ _ h
theorem ac_X5_total_49 {K : Nat × (Nat → Int32)} {x : Nat} {Q : tq_O → tq_S → Prop} {a1 : Int32} {z : tq_S} (h : wc_X5_total_49 Q a1 z) : tq_T K 3 x mm_X5_total 49 [.ref 2, .int a1] [] z Q :=
  tq_lp_T (σ := Int32 × tq_S) (s := (a1, z)) (G := fun s => tq_T K 3 x mm_X5_total 49 [.ref 2, .int s.1] [] s.2 Q) (fun B hB s h => ab_X5_total_49 (fun b1 z h => hB (b1, z) h) h) h
def wm_X5_total  (z : tq_S) (Q : tq_O → tq_S → Prop) : Prop := (((tq_fi z 134) = (tq_fi z 68) → wc_X5_total_102 Q z) ∧ (¬ (tq_fi z 134) = (tq_fi z 68) → wm_J7_fill_d0a16 (0 : Int64) z (tq_wv fun z1 => vp_in ((tq_fi z1 65) * (256 : Int32)) 2304 ∧ ∀ z2 : tq_S, z2 = tq_sal z1 3 (vp_updL (tq_al z1 3) (Int32.toNatClampNeg ((tq_fi z1 65) * (256 : Int32))) (1 : Int64)) → ∀ v3 : Int32, v3 = ((tq_fi z2 65) - (1 : Int32)) → wc_X5_total_49 Q v3 z2)))
theorem am_X5_total {K : Nat × (Nat → Int32)} {x : Nat} {z : tq_S} {Q : tq_O → tq_S → Prop}  (h : wm_X5_total z Q) : tq_M K 3 x mm_X5_total [.ref 2] z Q := by
  unfold wm_X5_total at h
  refine tq_enter (L := [.ref 2, .null]) mf_X5_total.1 rfl rfl (Nat.le_of_ble_eq_true rfl) ?_
  refine tq_s_aload_n (kk := 0) (by decide +kernel) rfl ?_
  refine fg_5_31_2 rfl (by decide +kernel) ?_
  refine tq_s_aload_n (kk := 0) (by decide +kernel) rfl ?_
  refine fg_5_7_2 rfl (by decide +kernel) ?_
  refine fg_5_58_1 rfl (by decide +kernel) ?_
  refine tq_icmp_eq (off := 91) (tgt := 102) (by decide +kernel) (by decide +kernel) (fun hc => ?_) (fun hc => ?_)
  · replace h := h.1 hc
    exact ac_X5_total_102 h
  · replace h := h.2 hc
    refine tq_s_aload_n (kk := 0) (by decide +kernel) rfl ?_
    refine fg_5_15_2 rfl (by decide +kernel) ?_
    refine tq_k_lc (n := 0) (v := (0 : Int64)) (by decide +kernel) (by decide +kernel) ?_
    refine tq_callS (as := [.ref 3, .long (0 : Int64)]) (st := []) (d1 := 0) (x1 := 0) (x2 := x) (by decide +kernel) ln_5_61 mf_J7_fill_d0a16 rfl (by decide) np_J7_fill_d0a16 rfl (Nat.le_of_ble_eq_true rfl) (by decide) (Nat.zero_add _).symm (tq_M_mono (am_J7_fill_d0a16 h) ?_)
    refine tq_wv_e (fun z1 h => ?_)
    refine tq_s_aload_n (kk := 0) (by decide +kernel) rfl ?_
    refine fg_5_15_2 rfl (by decide +kernel) ?_
    refine tq_s_aload_n (kk := 0) (by decide +kernel) rfl ?_
    refine fg_5_7_2 rfl (by decide +kernel) ?_
    refine fg_5_51_1 rfl (by decide +kernel) ?_
    refine tq_k_si (n := 256) (v := (256 : Int32)) (by decide +kernel) ks_256 ?_
    refine tq_s_imul (by decide +kernel) ?_
    refine tq_k_lc (n := 1) (v := (1 : Int64)) (by decide +kernel) (by decide +kernel) ?_
    refine tq_g_last (by decide +kernel) sh_3 h.1 (fun z2 ez2 => ?_)
    replace h := h.2 z2 ez2
    refine tq_s_aload_n (kk := 0) (by decide +kernel) rfl ?_
    refine fg_5_7_2 rfl (by decide +kernel) ?_
    refine fg_5_51_1 rfl (by decide +kernel) ?_
    refine tq_k_ic (n := 1) (v := (1 : Int32)) (by decide +kernel) kc_1 ?_
    refine tq_s_isub (by decide +kernel) ?_
    refine tq_g_istore_n (kk := 1) (fun v3 => [.ref 2, .int v3]) (by decide +kernel) (by decide) (fun _ => rfl) (fun v3 ev3 => ?_)
    replace h := h v3 ev3
    exact ac_X5_total_49 h
def wm_J9_abs_067f4 (a0 : Int64) (z : tq_S) (Q : tq_O → tq_S → Prop) : Prop := (((0 : Int64) ≤ a0 → Q (.inl (some (.long a0))) z) ∧ (¬ (0 : Int64) ≤ a0 → Q (.inl (some (.long (-a0)))) z))
theorem am_J9_abs_067f4 {K : Nat × (Nat → Int32)} {x : Nat} {z : tq_S} {Q : tq_O → tq_S → Prop} {a0 : Int64} (h : wm_J9_abs_067f4 a0 z Q) : tq_M K 0 x mm_J9_abs_067f4 [.long a0] z Q := by
  unfold wm_J9_abs_067f4 at h
  refine tq_enter (L := [.long a0, .null]) mf_J9_abs_067f4.1 rfl rfl (Nat.le_of_ble_eq_true rfl) ?_
  refine tq_s_lload_n (kk := 0) (by decide +kernel) rfl ?_
  refine tq_k_lc (n := 0) (v := (0 : Int64)) (by decide +kernel) (by decide +kernel) ?_
  refine tq_lcmp_ge (off := 8) (tgt := 11) (by decide +kernel) (by decide +kernel) (by decide +kernel) (fun hc => ?_) (fun hc => ?_)
  · replace h := h.1 hc
    refine tq_s_lload_n (kk := 0) (by decide +kernel) rfl ?_
    exact tq_ret_l (st := []) (by decide +kernel) rfl h
  · replace h := h.2 hc
    refine tq_s_lload_n (kk := 0) (by decide +kernel) rfl ?_
    refine tq_s_lneg (by decide +kernel) ?_
    refine tq_s_goto (off := 4) (tgt := 12) (by decide +kernel) (by decide +kernel) ?_
    exact tq_ret_l (st := []) (by decide +kernel) rfl h
def wb_X0_addLimbs_5 (B5 : Int64 → Int32 → tq_S → Prop) (Q : tq_O → tq_S → Prop) (a3 : Int64) (a5 : Int32) (z : tq_S) : Prop := (((3 : Int32) ≤ a5 → Q (.inl none) z) ∧ (¬ (3 : Int32) ≤ a5 → ((a3 ≤ (0 : Int64) → Q (.inl none) z) ∧ (¬ a3 ≤ (0 : Int64) → (((34 : Int32) ≤ (tq_fi z 2945) → Q (.inl none) z) ∧ (¬ (34 : Int32) ≤ (tq_fi z 2945) → vp_in (tq_fi z 2945) 34 ∧ ∀ z101 : tq_S, z101 = tq_sai z 47 (upd (tq_ai z 47) (Int32.toNatClampNeg (tq_fi z 2945)) (Int64.toInt32 (a3 - a3 / (1000000000 : Int64) * (1000000000 : Int64)))) → ∀ v102 : Int64, v102 = (a3 / (1000000000 : Int64)) → ∀ z103 : tq_S, z103 = tq_sfi z101 2945 ((tq_fi z101 2945) + (1 : Int32)) → ∀ v104 : Int32, v104 = a5 + (1 : Int32) → B5 v102 v104 z103))))))
def wc_X0_addLimbs_5 (Q : tq_O → tq_S → Prop) (a3 : Int64) (a5 : Int32) (z : tq_S) : Prop := tq_lp (σ := Int64 × Int32 × tq_S) (fun B s => wb_X0_addLimbs_5 (fun b3 b5 z => B (b3, b5, z)) Q s.1 s.2.1 s.2.2) (a3, a5, z)
theorem ab_X0_addLimbs_5 {K : Nat × (Nat → Int32)} {x : Nat} {Q : tq_O → tq_S → Prop} {B5 : Int64 → Int32 → tq_S → Prop} {a3 : Int64} {a5 : Int32} {z : tq_S} (hB5 : ∀ (b3 : Int64) (b5 : Int32) (z : tq_S), B5 b3 b5 z → tq_T K 0 x mm_X0_addLimbs 5 [.ref 46, .null, .null, .long b3, .null, .int b5] [] z Q) (h : wb_X0_addLimbs_5 B5 Q a3 a5 z) : tq_T K 0 x mm_X0_addLimbs 5 [.ref 46, .null, .null, .long a3, .null, .int a5] [] z Q := by
  unfold wb_X0_addLimbs_5 at h
  refine tq_s_iload (i := 5) (by decide +kernel) rfl ?_
  refine tq_k_ic (n := 3) (v := (3 : Int32)) (by decide +kernel) kc_3 ?_
  refine tq_icmp_ge (off := 55) (tgt := 63) (by decide +kernel) (by decide +kernel) (fun hc => ?_) (fun hc => ?_)
  · replace h := h.1 hc
    exact tq_ret_v (st := []) (by decide +kernel) rfl h
  · replace h := h.2 hc
    refine tq_s_lload_n (kk := 3) (by decide +kernel) rfl ?_
    refine tq_k_lc (n := 0) (v := (0 : Int64)) (by decide +kernel) (by decide +kernel) ?_
    refine tq_lcmp_le (off := 49) (tgt := 63) (by decide +kernel) (by decide +kernel) (by decide +kernel) (fun hc => ?_) (fun hc => ?_)
    · replace h := h.1 hc
      exact tq_ret_v (st := []) (by decide +kernel) rfl h
    · replace h := h.2 hc
      refine tq_s_aload_n (kk := 0) (by decide +kernel) rfl ?_
      refine fg_0_13_46 rfl (by decide +kernel) ?_
      refine tq_k_bi (n := 34) (v := (34 : Int32)) (by decide +kernel) kb_34 ?_
      refine tq_icmp_ge (off := 40) (tgt := 63) (by decide +kernel) (by decide +kernel) (fun hc => ?_) (fun hc => ?_)
      · replace h := h.1 hc
        exact tq_ret_v (st := []) (by decide +kernel) rfl h
      · replace h := h.2 hc
        refine tq_s_aload_n (kk := 0) (by decide +kernel) rfl ?_
        refine fg_0_9_46 rfl (by decide +kernel) ?_
        refine tq_s_aload_n (kk := 0) (by decide +kernel) rfl ?_
        refine fg_0_13_46 rfl (by decide +kernel) ?_
        refine tq_s_lload_n (kk := 3) (by decide +kernel) rfl ?_
        refine tq_s_ldc2 (i := 31) (v := (1000000000 : Int64)) (by decide +kernel) (by decide +kernel) ?_
        refine tq_s_lrem (by decide +kernel) (by decide +kernel) ?_
        refine tq_s_l2i (by decide +kernel) ?_
        refine tq_g_iast (by decide +kernel) sh_47 h.1 (fun z101 ez101 => ?_)
        replace h := h.2 z101 ez101
        refine tq_s_lload_n (kk := 3) (by decide +kernel) rfl ?_
        refine tq_s_ldc2 (i := 31) (v := (1000000000 : Int64)) (by decide +kernel) (by decide +kernel) ?_
        refine tq_s_ldiv (by decide +kernel) (by decide +kernel) ?_
        refine tq_g_lstore_n (kk := 3) (fun v102 => [.ref 46, .null, .null, .long v102, .null, .int a5]) (by decide +kernel) (by decide) (fun _ => rfl) (fun v102 ev102 => ?_)
        replace h := h v102 ev102
        refine tq_s_aload_n (kk := 0) (by decide +kernel) rfl ?_
        refine tq_s_dup (by decide +kernel) rfl ?_
        refine fg_0_13_46 rfl (by decide +kernel) ?_
        refine tq_k_ic (n := 1) (v := (1 : Int32)) (by decide +kernel) kc_1 ?_
        refine tq_s_iadd (by decide +kernel) ?_
        refine fp_0_13_46 rfl (by decide +kernel) (fun z103 ez103 => ?_)
        replace h := h z103 ez103
        refine tq_g_iinc (i := 5) (fun v104 => [.ref 46, .null, .null, .long v102, .null, .int v104]) (by decide +kernel) rfl (1 : Int32) kc_1 (fun _ => rfl) (fun v104 ev104 => ?_)
        replace h := h v104 ev104
        refine tq_s_goto (off := -55) (tgt := 5) (by decide +kernel) (by decide +kernel) ?_
        exact hB5 _ _ _ h
theorem ac_X0_addLimbs_5 {K : Nat × (Nat → Int32)} {x : Nat} {Q : tq_O → tq_S → Prop} {a3 : Int64} {a5 : Int32} {z : tq_S} (h : wc_X0_addLimbs_5 Q a3 a5 z) : tq_T K 0 x mm_X0_addLimbs 5 [.ref 46, .null, .null, .long a3, .null, .int a5] [] z Q :=
  tq_lp_T (σ := Int64 × Int32 × tq_S) (s := (a3, a5, z)) (G := fun s => tq_T K 0 x mm_X0_addLimbs 5 [.ref 46, .null, .null, .long s.1, .null, .int s.2.1] [] s.2.2 Q) (fun B hB s h => ab_X0_addLimbs_5 (fun b3 b5 z h => hB (b3, b5, z) h) h) h
def wm_X0_addLimbs (a1 : Int64) (z : tq_S) (Q : tq_O → tq_S → Prop) : Prop := wc_X0_addLimbs_5 Q a1 (0 : Int32) z
theorem am_X0_addLimbs {K : Nat × (Nat → Int32)} {x : Nat} {z : tq_S} {Q : tq_O → tq_S → Prop} {a1 : Int64} (h : wm_X0_addLimbs a1 z Q) : tq_M K 0 x mm_X0_addLimbs [.ref 46, .long a1] z Q := by
  unfold wm_X0_addLimbs at h
  refine tq_enter (L := [.ref 46, .long a1, .null, .null, .null, .null]) mf_X0_addLimbs.1 rfl rfl (Nat.le_of_ble_eq_true rfl) ?_
  refine tq_s_lload_n (kk := 1) (by decide +kernel) rfl ?_
  refine tq_s_lstore_n (kk := 3) (L9 := [.ref 46, .long a1, .null, .long a1, .null, .null]) (by decide +kernel) (by decide) rfl ?_
  refine tq_k_ic (n := 0) (v := (0 : Int32)) (by decide +kernel) kc_0 ?_
  refine tq_s_istore (i := 5) (L9 := [.ref 46, .long a1, .null, .long a1, .null, .int (0 : Int32)]) (by decide +kernel) (by decide) rfl ?_
  exact tq_to (tq_lk1 (tq_ld1 (tq_lk1 (tq_lk1 (tq_lk1 (tq_lk1 tq_l0)))))) (ac_X0_addLimbs_5 h)
def wc_X0_put_12 (Q : tq_O → tq_S → Prop) (a1 : Int64) (s0 : Int32) (z : tq_S) : Prop := tq_nz s0 ∧ ∀ z101 : tq_S, z101 = tq_sfi z 2946 s0 → ∀ z102 : tq_S, z102 = tq_sfi z101 2945 (0 : Int32) → wm_J9_abs_067f4 a1 z102 (tq_wl fun r104 z103 => wm_X0_addLimbs r104 z103 (tq_wv fun z105 => Q (.inl none) z105))
theorem ac_X0_put_12 {K : Nat × (Nat → Int32)} {x : Nat} {Q : tq_O → tq_S → Prop} {a1 : Int64} {s0 : Int32} {z : tq_S} (h : wc_X0_put_12 Q a1 s0 z) : tq_T K 1 x mm_X0_put 12 [.ref 46, .long a1, .null] [.int s0, .ref 46] z Q := by
  unfold wc_X0_put_12 at h
  refine fp_0_17_46 rfl (by decide +kernel) (tq_nz_f h.1) (fun z101 ez101 => ?_)
  replace h := h.2 z101 ez101
  refine tq_s_aload_n (kk := 0) (by decide +kernel) rfl ?_
  refine tq_k_ic (n := 0) (v := (0 : Int32)) (by decide +kernel) kc_0 ?_
  refine fp_0_13_46 rfl (by decide +kernel) (fun z102 ez102 => ?_)
  replace h := h z102 ez102
  refine tq_s_aload_n (kk := 0) (by decide +kernel) rfl ?_
  refine tq_s_lload_n (kk := 1) (by decide +kernel) rfl ?_
  refine tq_callS (as := [.long a1]) (st := [.ref 46]) (d1 := 0) (x1 := 0) (x2 := x) (by decide +kernel) ln_0_21 mf_J9_abs_067f4 rfl (by decide) np_J9_abs_067f4 rfl (Nat.le_of_ble_eq_true rfl) (by decide) (Nat.zero_add _).symm (tq_M_mono (am_J9_abs_067f4 h) ?_)
  refine tq_wl_e (fun r104 z103 h => ?_)
  refine tq_callV (as := [.long r104]) (st := []) (d1 := 0) (x1 := 0) (x2 := x) (by decide +kernel) ln_0_27 mf_X0_addLimbs rfl sh_46 rfl (by decide) np_X0_addLimbs rfl (Nat.le_of_ble_eq_true rfl) (by decide) (Nat.zero_add _).symm (tq_M_mono (am_X0_addLimbs h) ?_)
  refine tq_wv_e (fun z105 h => ?_)
  exact tq_ret_v (st := []) (by decide +kernel) rfl h
def wm_X0_put (a1 : Int64) (z : tq_S) (Q : tq_O → tq_S → Prop) : Prop := (((0 : Int64) ≤ a1 → wc_X0_put_12 Q a1 (0 : Int32) z) ∧ (¬ (0 : Int64) ≤ a1 → wc_X0_put_12 Q a1 (1 : Int32) z))
theorem am_X0_put {K : Nat × (Nat → Int32)} {x : Nat} {z : tq_S} {Q : tq_O → tq_S → Prop} {a1 : Int64} (h : wm_X0_put a1 z Q) : tq_M K 1 x mm_X0_put [.ref 46, .long a1] z Q := by
  unfold wm_X0_put at h
  refine tq_enter (L := [.ref 46, .long a1, .null]) mf_X0_put.1 rfl rfl (Nat.le_of_ble_eq_true rfl) ?_
  refine tq_s_aload_n (kk := 0) (by decide +kernel) rfl ?_
  refine tq_s_lload_n (kk := 1) (by decide +kernel) rfl ?_
  refine tq_k_lc (n := 0) (v := (0 : Int64)) (by decide +kernel) (by decide +kernel) ?_
  refine tq_lcmp_ge (off := 7) (tgt := 11) (by decide +kernel) (by decide +kernel) (by decide +kernel) (fun hc => ?_) (fun hc => ?_)
  · replace h := h.1 hc
    refine tq_k_ic (n := 0) (v := (0 : Int32)) (by decide +kernel) kc_0 ?_
    exact ac_X0_put_12 h
  · replace h := h.2 hc
    refine tq_k_ic (n := 1) (v := (1 : Int32)) (by decide +kernel) kc_1 ?_
    refine tq_s_goto (off := 4) (tgt := 12) (by decide +kernel) (by decide +kernel) ?_
    exact ac_X0_put_12 h
def wm_J9_max_7cf53 (a0 : Int32) (a1 : Int32) (z : tq_S) (Q : tq_O → tq_S → Prop) : Prop := ((a0 < a1 → Q (.inl (some (.int a1))) z) ∧ (¬ a0 < a1 → Q (.inl (some (.int a0))) z))
theorem am_J9_max_7cf53 {K : Nat × (Nat → Int32)} {x : Nat} {z : tq_S} {Q : tq_O → tq_S → Prop} {a0 : Int32} {a1 : Int32} (h : wm_J9_max_7cf53 a0 a1 z Q) : tq_M K 0 x mm_J9_max_7cf53 [.int a0, .int a1] z Q := by
  unfold wm_J9_max_7cf53 at h
  refine tq_enter (L := [.int a0, .int a1]) mf_J9_max_7cf53.1 rfl rfl (Nat.le_of_ble_eq_true rfl) ?_
  refine tq_s_iload_n (kk := 0) (by decide +kernel) rfl ?_
  refine tq_s_iload_n (kk := 1) (by decide +kernel) rfl ?_
  refine tq_icmp_lt (off := 7) (tgt := 9) (by decide +kernel) (by decide +kernel) (fun hc => ?_) (fun hc => ?_)
  · replace h := h.1 hc
    refine tq_s_iload_n (kk := 1) (by decide +kernel) rfl ?_
    exact tq_ret_i (st := []) (by decide +kernel) rfl h
  · replace h := h.2 hc
    refine tq_s_iload_n (kk := 0) (by decide +kernel) rfl ?_
    refine tq_s_goto (off := 4) (tgt := 10) (by decide +kernel) (by decide +kernel) ?_
    exact tq_ret_i (st := []) (by decide +kernel) rfl h
def wc_X0_writeTo_150 (B37 : Int32 → Int32 → Int32 → tq_S → Prop) (B69 : Int32 → Int32 → Int32 → Int32 → tq_S → Prop) (Q : tq_O → tq_S → Prop) (a2 : Int32) (a3 : Int32) (a4 : Int32) (a5 : Int32) (a7 : Int32) (s0 : Int32) (z : tq_S) : Prop := ∀ v101 : Int32, v101 = a7 + (1 : Int32) → B69 a2 a3 s0 v101 z
theorem ac_X0_writeTo_150 {K : Nat × (Nat → Int32)} {x : Nat} {Q : tq_O → tq_S → Prop} {B37 : Int32 → Int32 → Int32 → tq_S → Prop} {B69 : Int32 → Int32 → Int32 → Int32 → tq_S → Prop} {a2 : Int32} {a3 : Int32} {a4 : Int32} {a5 : Int32} {a7 : Int32} {s0 : Int32} {z : tq_S} (hB37 : ∀ (b2 : Int32) (b3 : Int32) (b4 : Int32) (z : tq_S), B37 b2 b3 b4 z → tq_T K 1 x mm_X0_writeTo 37 [.ref 46, .ref 50, .int b2, .int b3, .int b4, .null, .null, .null, .null] [] z Q) (hB69 : ∀ (b2 : Int32) (b3 : Int32) (b6 : Int32) (b7 : Int32) (z : tq_S), B69 b2 b3 b6 b7 z → tq_T K 1 x mm_X0_writeTo 69 [.ref 46, .ref 50, .int b2, .int b3, .int a4, .int a5, .int b6, .int b7, .null] [] z Q) (h : wc_X0_writeTo_150 B37 B69 Q a2 a3 a4 a5 a7 s0 z) : tq_T K 1 x mm_X0_writeTo 150 [.ref 46, .ref 50, .int a2, .int a3, .int a4, .int a5, .null, .int a7, .null] [.int s0] z Q := by
  unfold wc_X0_writeTo_150 at h
  refine tq_s_istore (i := 6) (L9 := [.ref 46, .ref 50, .int a2, .int a3, .int a4, .int a5, .int s0, .int a7, .null]) (by decide +kernel) (by decide) rfl ?_
  refine tq_g_iinc (i := 7) (fun v101 => [.ref 46, .ref 50, .int a2, .int a3, .int a4, .int a5, .int s0, .int v101, .null]) (by decide +kernel) rfl (1 : Int32) kc_1 (fun _ => rfl) (fun v101 ev101 => ?_)
  replace h := h v101 ev101
  refine tq_s_goto (off := -86) (tgt := 69) (by decide +kernel) (by decide +kernel) ?_
  exact hB69 _ _ _ _ _ h
def wc_X0_writeTo_135 (B37 : Int32 → Int32 → Int32 → tq_S → Prop) (B69 : Int32 → Int32 → Int32 → Int32 → tq_S → Prop) (Q : tq_O → tq_S → Prop) (a2 : Int32) (a3 : Int32) (a4 : Int32) (a5 : Int32) (a6 : Int32) (a7 : Int32) (z : tq_S) : Prop := ((a6 ≤ (1 : Int32) → wc_X0_writeTo_150 B37 B69 Q a2 a3 a4 a5 a7 (1 : Int32) z) ∧ (¬ a6 ≤ (1 : Int32) → wc_X0_writeTo_150 B37 B69 Q a2 a3 a4 a5 a7 (a6 / (10 : Int32)) z))
theorem ac_X0_writeTo_135 {K : Nat × (Nat → Int32)} {x : Nat} {Q : tq_O → tq_S → Prop} {B37 : Int32 → Int32 → Int32 → tq_S → Prop} {B69 : Int32 → Int32 → Int32 → Int32 → tq_S → Prop} {a2 : Int32} {a3 : Int32} {a4 : Int32} {a5 : Int32} {a6 : Int32} {a7 : Int32} {z : tq_S} (hB37 : ∀ (b2 : Int32) (b3 : Int32) (b4 : Int32) (z : tq_S), B37 b2 b3 b4 z → tq_T K 1 x mm_X0_writeTo 37 [.ref 46, .ref 50, .int b2, .int b3, .int b4, .null, .null, .null, .null] [] z Q) (hB69 : ∀ (b2 : Int32) (b3 : Int32) (b6 : Int32) (b7 : Int32) (z : tq_S), B69 b2 b3 b6 b7 z → tq_T K 1 x mm_X0_writeTo 69 [.ref 46, .ref 50, .int b2, .int b3, .int a4, .int a5, .int b6, .int b7, .null] [] z Q) (h : wc_X0_writeTo_135 B37 B69 Q a2 a3 a4 a5 a6 a7 z) : tq_T K 1 x mm_X0_writeTo 135 [.ref 46, .ref 50, .int a2, .int a3, .int a4, .int a5, .int a6, .int a7, .null] [] z Q := by
  unfold wc_X0_writeTo_135 at h
  refine tq_s_iload (i := 6) (by decide +kernel) rfl ?_
  refine tq_k_ic (n := 1) (v := (1 : Int32)) (by decide +kernel) kc_1 ?_
  refine tq_icmp_le (off := 11) (tgt := 149) (by decide +kernel) (by decide +kernel) (fun hc => ?_) (fun hc => ?_)
  · replace h := h.1 hc
    refine tq_k_ic (n := 1) (v := (1 : Int32)) (by decide +kernel) kc_1 ?_
    exact tq_to (tq_lk1 (tq_lk1 (tq_lk1 (tq_lk1 (tq_lk1 (tq_lk1 (tq_ld1 (tq_lk1 (tq_lk1 tq_l0))))))))) (ac_X0_writeTo_150 hB37 hB69 h)
  · replace h := h.2 hc
    refine tq_s_iload (i := 6) (by decide +kernel) rfl ?_
    refine tq_k_bi (n := 10) (v := (10 : Int32)) (by decide +kernel) kb_10 ?_
    refine tq_s_idiv (by decide +kernel) (by decide +kernel) ?_
    refine tq_s_goto (off := 4) (tgt := 150) (by decide +kernel) (by decide +kernel) ?_
    exact tq_to (tq_lk1 (tq_lk1 (tq_lk1 (tq_lk1 (tq_lk1 (tq_lk1 (tq_ld1 (tq_lk1 (tq_lk1 tq_l0))))))))) (ac_X0_writeTo_150 hB37 hB69 h)
def wc_X0_writeTo_112 (B37 : Int32 → Int32 → Int32 → tq_S → Prop) (B69 : Int32 → Int32 → Int32 → Int32 → tq_S → Prop) (Q : tq_O → tq_S → Prop) (a2 : Int32) (a4 : Int32) (a5 : Int32) (a6 : Int32) (a7 : Int32) (a8 : Int32) (s0 : Int32) (z : tq_S) : Prop := ((s0 = 0 → wc_X0_writeTo_135 B37 B69 Q a2 s0 a4 a5 a6 a7 z) ∧ (¬ s0 = 0 → (((Int32.ofNat 320) ≤ a2 → wc_X0_writeTo_135 B37 B69 Q a2 s0 a4 a5 a6 a7 z) ∧ (¬ (Int32.ofNat 320) ≤ a2 → vp_in a2 320 ∧ ∀ z101 : tq_S, z101 = tq_sai z 50 (upd (tq_ai z 50) (Int32.toNatClampNeg a2) (vp_nar .char ((Int32.toUInt32 ((48 : Int32) + a8)) % 65536).toInt32)) → ∀ v102 : Int32, v102 = a2 + (1 : Int32) → wc_X0_writeTo_135 B37 B69 Q v102 s0 a4 a5 a6 a7 z101))))
theorem ac_X0_writeTo_112 {K : Nat × (Nat → Int32)} {x : Nat} {Q : tq_O → tq_S → Prop} {B37 : Int32 → Int32 → Int32 → tq_S → Prop} {B69 : Int32 → Int32 → Int32 → Int32 → tq_S → Prop} {a2 : Int32} {a4 : Int32} {a5 : Int32} {a6 : Int32} {a7 : Int32} {a8 : Int32} {s0 : Int32} {z : tq_S} (hB37 : ∀ (b2 : Int32) (b3 : Int32) (b4 : Int32) (z : tq_S), B37 b2 b3 b4 z → tq_T K 1 x mm_X0_writeTo 37 [.ref 46, .ref 50, .int b2, .int b3, .int b4, .null, .null, .null, .null] [] z Q) (hB69 : ∀ (b2 : Int32) (b3 : Int32) (b6 : Int32) (b7 : Int32) (z : tq_S), B69 b2 b3 b6 b7 z → tq_T K 1 x mm_X0_writeTo 69 [.ref 46, .ref 50, .int b2, .int b3, .int a4, .int a5, .int b6, .int b7, .null] [] z Q) (h : wc_X0_writeTo_112 B37 B69 Q a2 a4 a5 a6 a7 a8 s0 z) : tq_T K 1 x mm_X0_writeTo 112 [.ref 46, .ref 50, .int a2, .null, .int a4, .int a5, .int a6, .int a7, .int a8] [.int s0] z Q := by
  unfold wc_X0_writeTo_112 at h
  refine tq_s_istore_n (kk := 3) (L9 := [.ref 46, .ref 50, .int a2, .int s0, .int a4, .int a5, .int a6, .int a7, .int a8]) (by decide +kernel) (by decide) rfl ?_
  refine tq_s_iload_n (kk := 3) (by decide +kernel) rfl ?_
  refine tq_if_eq (off := 21) (tgt := 135) (by decide +kernel) (by decide +kernel) (fun hc => ?_) (fun hc => ?_)
  · replace h := h.1 hc
    exact tq_to (tq_lk1 (tq_lk1 (tq_lk1 (tq_lk1 (tq_lk1 (tq_lk1 (tq_lk1 (tq_lk1 (tq_ld1 tq_l0))))))))) (ac_X0_writeTo_135 hB37 hB69 h)
  · replace h := h.2 hc
    refine tq_s_iload_n (kk := 2) (by decide +kernel) rfl ?_
    refine tq_s_aload_n (kk := 1) (by decide +kernel) rfl ?_
    refine tq_s_alen (by decide +kernel) sh_50 (by decide) ?_
    refine tq_icmp_ge (off := 15) (tgt := 135) (by decide +kernel) (by decide +kernel) (fun hc => ?_) (fun hc => ?_)
    · replace h := h.1 hc
      exact tq_to (tq_lk1 (tq_lk1 (tq_lk1 (tq_lk1 (tq_lk1 (tq_lk1 (tq_lk1 (tq_lk1 (tq_ld1 tq_l0))))))))) (ac_X0_writeTo_135 hB37 hB69 h)
    · replace h := h.2 hc
      refine tq_s_aload_n (kk := 1) (by decide +kernel) rfl ?_
      refine tq_s_iload_n (kk := 2) (by decide +kernel) rfl ?_
      refine tq_k_bi (n := 48) (v := (48 : Int32)) (by decide +kernel) kb_48 ?_
      refine tq_s_iload (i := 8) (by decide +kernel) rfl ?_
      refine tq_s_iadd (by decide +kernel) ?_
      refine tq_s_i2c (by decide +kernel) ?_
      refine tq_g_cast (by decide +kernel) sh_50 h.1 (fun z101 ez101 => ?_)
      replace h := h.2 z101 ez101
      refine tq_g_iinc (i := 2) (fun v102 => [.ref 46, .ref 50, .int v102, .int s0, .int a4, .int a5, .int a6, .int a7, .int a8]) (by decide +kernel) rfl (1 : Int32) kc_1 (fun _ => rfl) (fun v102 ev102 => ?_)
      replace h := h v102 ev102
      exact tq_to (tq_lk1 (tq_lk1 (tq_lk1 (tq_lk1 (tq_lk1 (tq_lk1 (tq_lk1 (tq_lk1 (tq_ld1 tq_l0))))))))) (ac_X0_writeTo_135 hB37 hB69 h)
def wc_X0_writeTo_107 (B37 : Int32 → Int32 → Int32 → tq_S → Prop) (B69 : Int32 → Int32 → Int32 → Int32 → tq_S → Prop) (Q : tq_O → tq_S → Prop) (a2 : Int32) (a4 : Int32) (a5 : Int32) (a6 : Int32) (a7 : Int32) (a8 : Int32) (z : tq_S) : Prop := wc_X0_writeTo_112 B37 B69 Q a2 a4 a5 a6 a7 a8 (1 : Int32) z
theorem ac_X0_writeTo_107 {K : Nat × (Nat → Int32)} {x : Nat} {Q : tq_O → tq_S → Prop} {B37 : Int32 → Int32 → Int32 → tq_S → Prop} {B69 : Int32 → Int32 → Int32 → Int32 → tq_S → Prop} {a2 : Int32} {a4 : Int32} {a5 : Int32} {a6 : Int32} {a7 : Int32} {a8 : Int32} {z : tq_S} (hB37 : ∀ (b2 : Int32) (b3 : Int32) (b4 : Int32) (z : tq_S), B37 b2 b3 b4 z → tq_T K 1 x mm_X0_writeTo 37 [.ref 46, .ref 50, .int b2, .int b3, .int b4, .null, .null, .null, .null] [] z Q) (hB69 : ∀ (b2 : Int32) (b3 : Int32) (b6 : Int32) (b7 : Int32) (z : tq_S), B69 b2 b3 b6 b7 z → tq_T K 1 x mm_X0_writeTo 69 [.ref 46, .ref 50, .int b2, .int b3, .int a4, .int a5, .int b6, .int b7, .null] [] z Q) (h : wc_X0_writeTo_107 B37 B69 Q a2 a4 a5 a6 a7 a8 z) : tq_T K 1 x mm_X0_writeTo 107 [.ref 46, .ref 50, .int a2, .null, .int a4, .int a5, .int a6, .int a7, .int a8] [] z Q := by
  unfold wc_X0_writeTo_107 at h
  refine tq_k_ic (n := 1) (v := (1 : Int32)) (by decide +kernel) kc_1 ?_
  refine tq_s_goto (off := 4) (tgt := 112) (by decide +kernel) (by decide +kernel) ?_
  exact ac_X0_writeTo_112 hB37 hB69 h
def wc_X0_writeTo_111 (B37 : Int32 → Int32 → Int32 → tq_S → Prop) (B69 : Int32 → Int32 → Int32 → Int32 → tq_S → Prop) (Q : tq_O → tq_S → Prop) (a2 : Int32) (a4 : Int32) (a5 : Int32) (a6 : Int32) (a7 : Int32) (a8 : Int32) (z : tq_S) : Prop := wc_X0_writeTo_112 B37 B69 Q a2 a4 a5 a6 a7 a8 (0 : Int32) z
theorem ac_X0_writeTo_111 {K : Nat × (Nat → Int32)} {x : Nat} {Q : tq_O → tq_S → Prop} {B37 : Int32 → Int32 → Int32 → tq_S → Prop} {B69 : Int32 → Int32 → Int32 → Int32 → tq_S → Prop} {a2 : Int32} {a4 : Int32} {a5 : Int32} {a6 : Int32} {a7 : Int32} {a8 : Int32} {z : tq_S} (hB37 : ∀ (b2 : Int32) (b3 : Int32) (b4 : Int32) (z : tq_S), B37 b2 b3 b4 z → tq_T K 1 x mm_X0_writeTo 37 [.ref 46, .ref 50, .int b2, .int b3, .int b4, .null, .null, .null, .null] [] z Q) (hB69 : ∀ (b2 : Int32) (b3 : Int32) (b6 : Int32) (b7 : Int32) (z : tq_S), B69 b2 b3 b6 b7 z → tq_T K 1 x mm_X0_writeTo 69 [.ref 46, .ref 50, .int b2, .int b3, .int a4, .int a5, .int b6, .int b7, .null] [] z Q) (h : wc_X0_writeTo_111 B37 B69 Q a2 a4 a5 a6 a7 a8 z) : tq_T K 1 x mm_X0_writeTo 111 [.ref 46, .ref 50, .int a2, .null, .int a4, .int a5, .int a6, .int a7, .int a8] [] z Q := by
  unfold wc_X0_writeTo_111 at h
  refine tq_k_ic (n := 0) (v := (0 : Int32)) (by decide +kernel) kc_0 ?_
  exact ac_X0_writeTo_112 hB37 hB69 h
def wc_X0_writeTo_158 (B37 : Int32 → Int32 → Int32 → tq_S → Prop) (Q : tq_O → tq_S → Prop) (a2 : Int32) (a3 : Int32) (a4 : Int32) (z : tq_S) : Prop := ∀ v101 : Int32, v101 = a4 + (-1 : Int32) → B37 a2 a3 v101 z
theorem ac_X0_writeTo_158 {K : Nat × (Nat → Int32)} {x : Nat} {Q : tq_O → tq_S → Prop} {B37 : Int32 → Int32 → Int32 → tq_S → Prop} {a2 : Int32} {a3 : Int32} {a4 : Int32} {z : tq_S} (hB37 : ∀ (b2 : Int32) (b3 : Int32) (b4 : Int32) (z : tq_S), B37 b2 b3 b4 z → tq_T K 1 x mm_X0_writeTo 37 [.ref 46, .ref 50, .int b2, .int b3, .int b4, .null, .null, .null, .null] [] z Q) (h : wc_X0_writeTo_158 B37 Q a2 a3 a4 z) : tq_T K 1 x mm_X0_writeTo 158 [.ref 46, .ref 50, .int a2, .int a3, .int a4, .null, .null, .null, .null] [] z Q := by
  unfold wc_X0_writeTo_158 at h
  refine tq_g_iinc (i := 4) (fun v101 => [.ref 46, .ref 50, .int a2, .int a3, .int v101, .null, .null, .null, .null]) (by decide +kernel) rfl (-1 : Int32) kc_m1 (fun _ => rfl) (fun v101 ev101 => ?_)
  replace h := h v101 ev101
  refine tq_s_goto (off := -124) (tgt := 37) (by decide +kernel) (by decide +kernel) ?_
  exact hB37 _ _ _ _ h
def wb_X0_writeTo_69 (B37 : Int32 → Int32 → Int32 → tq_S → Prop) (B69 : Int32 → Int32 → Int32 → Int32 → tq_S → Prop) (Q : tq_O → tq_S → Prop) (a2 : Int32) (a3 : Int32) (a4 : Int32) (a5 : Int32) (a6 : Int32) (a7 : Int32) (z : tq_S) : Prop := (((9 : Int32) ≤ a7 → wc_X0_writeTo_158 B37 Q a2 a3 a4 z) ∧ (¬ (9 : Int32) ≤ a7 → (¬ a6 = 0) ∧ ∀ v101 : Int32, v101 = ((a5 / a6) - (a5 / a6) / (10 : Int32) * (10 : Int32)) → ((¬ a3 = 0 → wc_X0_writeTo_107 B37 B69 Q a2 a4 a5 a6 a7 v101 z) ∧ (a3 = 0 → ((¬ v101 = 0 → wc_X0_writeTo_107 B37 B69 Q a2 a4 a5 a6 a7 v101 z) ∧ (v101 = 0 → ((¬ a4 = 0 → wc_X0_writeTo_111 B37 B69 Q a2 a4 a5 a6 a7 v101 z) ∧ (a4 = 0 → ((¬ a7 = (8 : Int32) → wc_X0_writeTo_111 B37 B69 Q a2 a4 a5 a6 a7 v101 z) ∧ (a7 = (8 : Int32) → wc_X0_writeTo_107 B37 B69 Q a2 a4 a5 a6 a7 v101 z))))))))))
def wc_X0_writeTo_69 (B37 : Int32 → Int32 → Int32 → tq_S → Prop) (Q : tq_O → tq_S → Prop) (a2 : Int32) (a3 : Int32) (a4 : Int32) (a5 : Int32) (a6 : Int32) (a7 : Int32) (z : tq_S) : Prop := tq_lp (σ := Int32 × Int32 × Int32 × Int32 × tq_S) (fun B s => wb_X0_writeTo_69 B37 (fun b2 b3 b6 b7 z => B (b2, b3, b6, b7, z)) Q s.1 s.2.1 a4 a5 s.2.2.1 s.2.2.2.1 s.2.2.2.2) (a2, a3, a6, a7, z)
theorem ab_X0_writeTo_69 {K : Nat × (Nat → Int32)} {x : Nat} {Q : tq_O → tq_S → Prop} {B37 : Int32 → Int32 → Int32 → tq_S → Prop} {B69 : Int32 → Int32 → Int32 → Int32 → tq_S → Prop} {a2 : Int32} {a3 : Int32} {a4 : Int32} {a5 : Int32} {a6 : Int32} {a7 : Int32} {z : tq_S} (hB37 : ∀ (b2 : Int32) (b3 : Int32) (b4 : Int32) (z : tq_S), B37 b2 b3 b4 z → tq_T K 1 x mm_X0_writeTo 37 [.ref 46, .ref 50, .int b2, .int b3, .int b4, .null, .null, .null, .null] [] z Q) (hB69 : ∀ (b2 : Int32) (b3 : Int32) (b6 : Int32) (b7 : Int32) (z : tq_S), B69 b2 b3 b6 b7 z → tq_T K 1 x mm_X0_writeTo 69 [.ref 46, .ref 50, .int b2, .int b3, .int a4, .int a5, .int b6, .int b7, .null] [] z Q) (h : wb_X0_writeTo_69 B37 B69 Q a2 a3 a4 a5 a6 a7 z) : tq_T K 1 x mm_X0_writeTo 69 [.ref 46, .ref 50, .int a2, .int a3, .int a4, .int a5, .int a6, .int a7, .null] [] z Q := by
  unfold wb_X0_writeTo_69 at h
  refine tq_s_iload (i := 7) (by decide +kernel) rfl ?_
  refine tq_k_bi (n := 9) (v := (9 : Int32)) (by decide +kernel) kb_9 ?_
  refine tq_icmp_ge (off := 85) (tgt := 158) (by decide +kernel) (by decide +kernel) (fun hc => ?_) (fun hc => ?_)
  · replace h := h.1 hc
    exact tq_to (tq_lk1 (tq_lk1 (tq_lk1 (tq_lk1 (tq_lk1 (tq_ld1 (tq_ld1 (tq_ld1 (tq_lk1 tq_l0))))))))) (ac_X0_writeTo_158 hB37 h)
  · replace h := h.2 hc
    refine tq_s_iload (i := 5) (by decide +kernel) rfl ?_
    refine tq_s_iload (i := 6) (by decide +kernel) rfl ?_
    refine tq_s_idiv (by decide +kernel) h.1 ?_
    replace h := h.2
    refine tq_k_bi (n := 10) (v := (10 : Int32)) (by decide +kernel) kb_10 ?_
    refine tq_s_irem (by decide +kernel) (by decide +kernel) ?_
    refine tq_g_istore (i := 8) (fun v101 => [.ref 46, .ref 50, .int a2, .int a3, .int a4, .int a5, .int a6, .int a7, .int v101]) (by decide +kernel) (by decide) (fun _ => rfl) (fun v101 ev101 => ?_)
    replace h := h v101 ev101
    refine tq_s_iload_n (kk := 3) (by decide +kernel) rfl ?_
    refine tq_if_ne (off := 20) (tgt := 107) (by decide +kernel) (by decide +kernel) (fun hc => ?_) (fun hc => ?_)
    · replace h := h.1 hc
      exact tq_to (tq_lk1 (tq_lk1 (tq_lk1 (tq_ld1 (tq_lk1 (tq_lk1 (tq_lk1 (tq_lk1 (tq_lk1 tq_l0))))))))) (ac_X0_writeTo_107 hB37 hB69 h)
    · replace h := h.2 hc
      refine tq_s_iload (i := 8) (by decide +kernel) rfl ?_
      refine tq_if_ne (off := 15) (tgt := 107) (by decide +kernel) (by decide +kernel) (fun hc => ?_) (fun hc => ?_)
      · replace h := h.1 hc
        exact tq_to (tq_lk1 (tq_lk1 (tq_lk1 (tq_ld1 (tq_lk1 (tq_lk1 (tq_lk1 (tq_lk1 (tq_lk1 tq_l0))))))))) (ac_X0_writeTo_107 hB37 hB69 h)
      · replace h := h.2 hc
        refine tq_s_iload (i := 4) (by decide +kernel) rfl ?_
        refine tq_if_ne (off := 14) (tgt := 111) (by decide +kernel) (by decide +kernel) (fun hc => ?_) (fun hc => ?_)
        · replace h := h.1 hc
          exact tq_to (tq_lk1 (tq_lk1 (tq_lk1 (tq_ld1 (tq_lk1 (tq_lk1 (tq_lk1 (tq_lk1 (tq_lk1 tq_l0))))))))) (ac_X0_writeTo_111 hB37 hB69 h)
        · replace h := h.2 hc
          refine tq_s_iload (i := 7) (by decide +kernel) rfl ?_
          refine tq_k_bi (n := 8) (v := (8 : Int32)) (by decide +kernel) kb_8 ?_
          refine tq_icmp_ne (off := 7) (tgt := 111) (by decide +kernel) (by decide +kernel) (fun hc => ?_) (fun hc => ?_)
          · replace h := h.1 hc
            exact tq_to (tq_lk1 (tq_lk1 (tq_lk1 (tq_ld1 (tq_lk1 (tq_lk1 (tq_lk1 (tq_lk1 (tq_lk1 tq_l0))))))))) (ac_X0_writeTo_111 hB37 hB69 h)
          · replace h := h.2 hc
            exact tq_to (tq_lk1 (tq_lk1 (tq_lk1 (tq_ld1 (tq_lk1 (tq_lk1 (tq_lk1 (tq_lk1 (tq_lk1 tq_l0))))))))) (ac_X0_writeTo_107 hB37 hB69 h)
theorem ac_X0_writeTo_69 {K : Nat × (Nat → Int32)} {x : Nat} {Q : tq_O → tq_S → Prop} {B37 : Int32 → Int32 → Int32 → tq_S → Prop} {a2 : Int32} {a3 : Int32} {a4 : Int32} {a5 : Int32} {a6 : Int32} {a7 : Int32} {z : tq_S} (hB37 : ∀ (b2 : Int32) (b3 : Int32) (b4 : Int32) (z : tq_S), B37 b2 b3 b4 z → tq_T K 1 x mm_X0_writeTo 37 [.ref 46, .ref 50, .int b2, .int b3, .int b4, .null, .null, .null, .null] [] z Q) (h : wc_X0_writeTo_69 B37 Q a2 a3 a4 a5 a6 a7 z) : tq_T K 1 x mm_X0_writeTo 69 [.ref 46, .ref 50, .int a2, .int a3, .int a4, .int a5, .int a6, .int a7, .null] [] z Q :=
  tq_lp_T (σ := Int32 × Int32 × Int32 × Int32 × tq_S) (s := (a2, a3, a6, a7, z)) (G := fun s => tq_T K 1 x mm_X0_writeTo 69 [.ref 46, .ref 50, .int s.1, .int s.2.1, .int a4, .int a5, .int s.2.2.1, .int s.2.2.2.1, .null] [] s.2.2.2.2 Q) (fun B hB s h => ab_X0_writeTo_69 hB37 (fun b2 b3 b6 b7 z h => hB (b2, b3, b6, b7, z) h) h) h
def wc_X0_writeTo_60 (B37 : Int32 → Int32 → Int32 → tq_S → Prop) (Q : tq_O → tq_S → Prop) (a2 : Int32) (a3 : Int32) (a4 : Int32) (s0 : Int32) (z : tq_S) : Prop := wc_X0_writeTo_69 B37 Q a2 a3 a4 s0 (100000000 : Int32) (0 : Int32) z
theorem ac_X0_writeTo_60 {K : Nat × (Nat → Int32)} {x : Nat} {Q : tq_O → tq_S → Prop} {B37 : Int32 → Int32 → Int32 → tq_S → Prop} {a2 : Int32} {a3 : Int32} {a4 : Int32} {s0 : Int32} {z : tq_S} (hB37 : ∀ (b2 : Int32) (b3 : Int32) (b4 : Int32) (z : tq_S), B37 b2 b3 b4 z → tq_T K 1 x mm_X0_writeTo 37 [.ref 46, .ref 50, .int b2, .int b3, .int b4, .null, .null, .null, .null] [] z Q) (h : wc_X0_writeTo_60 B37 Q a2 a3 a4 s0 z) : tq_T K 1 x mm_X0_writeTo 60 [.ref 46, .ref 50, .int a2, .int a3, .int a4, .null, .null, .null, .null] [.int s0] z Q := by
  unfold wc_X0_writeTo_60 at h
  refine tq_s_istore (i := 5) (L9 := [.ref 46, .ref 50, .int a2, .int a3, .int a4, .int s0, .null, .null, .null]) (by decide +kernel) (by decide) rfl ?_
  refine tq_s_ldc (i := 48) (v := (100000000 : Int32)) (by decide +kernel) (by decide +kernel) ?_
  refine tq_s_istore (i := 6) (L9 := [.ref 46, .ref 50, .int a2, .int a3, .int a4, .int s0, .int (100000000 : Int32), .null, .null]) (by decide +kernel) (by decide) rfl ?_
  refine tq_k_ic (n := 0) (v := (0 : Int32)) (by decide +kernel) kc_0 ?_
  refine tq_s_istore (i := 7) (L9 := [.ref 46, .ref 50, .int a2, .int a3, .int a4, .int s0, .int (100000000 : Int32), .int (0 : Int32), .null]) (by decide +kernel) (by decide) rfl ?_
  exact ac_X0_writeTo_69 hB37 h
def wb_X0_writeTo_37 (B37 : Int32 → Int32 → Int32 → tq_S → Prop) (Q : tq_O → tq_S → Prop) (a2 : Int32) (a3 : Int32) (a4 : Int32) (z : tq_S) : Prop := ((a4 < 0 → Q (.inl (some (.int a2))) z) ∧ (¬ a4 < 0 → ((¬ (tq_fi z 2945) = 0 → vp_in a4 34 ∧ wc_X0_writeTo_60 B37 Q a2 a3 a4 (tq_ai z 47 (Int32.toNatClampNeg a4)) z) ∧ ((tq_fi z 2945) = 0 → wc_X0_writeTo_60 B37 Q a2 a3 a4 (0 : Int32) z))))
def wc_X0_writeTo_37 (Q : tq_O → tq_S → Prop) (a2 : Int32) (a3 : Int32) (a4 : Int32) (z : tq_S) : Prop := tq_lp (σ := Int32 × Int32 × Int32 × tq_S) (fun B s => wb_X0_writeTo_37 (fun b2 b3 b4 z => B (b2, b3, b4, z)) Q s.1 s.2.1 s.2.2.1 s.2.2.2) (a2, a3, a4, z)
theorem ab_X0_writeTo_37 {K : Nat × (Nat → Int32)} {x : Nat} {Q : tq_O → tq_S → Prop} {B37 : Int32 → Int32 → Int32 → tq_S → Prop} {a2 : Int32} {a3 : Int32} {a4 : Int32} {z : tq_S} (hB37 : ∀ (b2 : Int32) (b3 : Int32) (b4 : Int32) (z : tq_S), B37 b2 b3 b4 z → tq_T K 1 x mm_X0_writeTo 37 [.ref 46, .ref 50, .int b2, .int b3, .int b4, .null, .null, .null, .null] [] z Q) (h : wb_X0_writeTo_37 B37 Q a2 a3 a4 z) : tq_T K 1 x mm_X0_writeTo 37 [.ref 46, .ref 50, .int a2, .int a3, .int a4, .null, .null, .null, .null] [] z Q := by
  unfold wb_X0_writeTo_37 at h
  refine tq_s_iload (i := 4) (by decide +kernel) rfl ?_
  refine tq_if_lt (off := 125) (tgt := 164) (by decide +kernel) (by decide +kernel) (fun hc => ?_) (fun hc => ?_)
  · replace h := h.1 hc
    refine tq_s_iload_n (kk := 2) (by decide +kernel) rfl ?_
    exact tq_ret_i (st := []) (by decide +kernel) rfl h
  · replace h := h.2 hc
    refine tq_s_aload_n (kk := 0) (by decide +kernel) rfl ?_
    refine fg_0_13_46 rfl (by decide +kernel) ?_
    refine tq_if_ne (off := 7) (tgt := 53) (by decide +kernel) (by decide +kernel) (fun hc => ?_) (fun hc => ?_)
    · replace h := h.1 hc
      refine tq_s_aload_n (kk := 0) (by decide +kernel) rfl ?_
      refine fg_0_9_46 rfl (by decide +kernel) ?_
      refine tq_s_iload (i := 4) (by decide +kernel) rfl ?_
      refine tq_s_iald (by decide +kernel) sh_47 h.1 ?_
      replace h := h.2
      exact ac_X0_writeTo_60 hB37 h
    · replace h := h.2 hc
      refine tq_k_ic (n := 0) (v := (0 : Int32)) (by decide +kernel) kc_0 ?_
      refine tq_s_goto (off := 10) (tgt := 60) (by decide +kernel) (by decide +kernel) ?_
      exact ac_X0_writeTo_60 hB37 h
theorem ac_X0_writeTo_37 {K : Nat × (Nat → Int32)} {x : Nat} {Q : tq_O → tq_S → Prop} {a2 : Int32} {a3 : Int32} {a4 : Int32} {z : tq_S} (h : wc_X0_writeTo_37 Q a2 a3 a4 z) : tq_T K 1 x mm_X0_writeTo 37 [.ref 46, .ref 50, .int a2, .int a3, .int a4, .null, .null, .null, .null] [] z Q :=
  tq_lp_T (σ := Int32 × Int32 × Int32 × tq_S) (s := (a2, a3, a4, z)) (G := fun s => tq_T K 1 x mm_X0_writeTo 37 [.ref 46, .ref 50, .int s.1, .int s.2.1, .int s.2.2.1, .null, .null, .null, .null] [] s.2.2.2 Q) (fun B hB s h => ab_X0_writeTo_37 (fun b2 b3 b4 z h => hB (b2, b3, b4, z) h) h) h
def wc_X0_writeTo_23 (Q : tq_O → tq_S → Prop) (a2 : Int32) (z : tq_S) : Prop := wm_J9_max_7cf53 ((tq_fi z 2945) - (1 : Int32)) (0 : Int32) z (tq_wi fun r102 z101 => wc_X0_writeTo_37 Q a2 (0 : Int32) r102 z101)
theorem ac_X0_writeTo_23 {K : Nat × (Nat → Int32)} {x : Nat} {Q : tq_O → tq_S → Prop} {a2 : Int32} {z : tq_S} (h : wc_X0_writeTo_23 Q a2 z) : tq_T K 1 x mm_X0_writeTo 23 [.ref 46, .ref 50, .int a2, .null, .null, .null, .null, .null, .null] [] z Q := by
  unfold wc_X0_writeTo_23 at h
  refine tq_k_ic (n := 0) (v := (0 : Int32)) (by decide +kernel) kc_0 ?_
  refine tq_s_istore_n (kk := 3) (L9 := [.ref 46, .ref 50, .int a2, .int (0 : Int32), .null, .null, .null, .null, .null]) (by decide +kernel) (by decide) rfl ?_
  refine tq_s_aload_n (kk := 0) (by decide +kernel) rfl ?_
  refine fg_0_13_46 rfl (by decide +kernel) ?_
  refine tq_k_ic (n := 1) (v := (1 : Int32)) (by decide +kernel) kc_1 ?_
  refine tq_s_isub (by decide +kernel) ?_
  refine tq_k_ic (n := 0) (v := (0 : Int32)) (by decide +kernel) kc_0 ?_
  refine tq_callS (as := [.int ((tq_fi z 2945) - (1 : Int32)), .int (0 : Int32)]) (st := []) (d1 := 0) (x1 := 0) (x2 := x) (by decide +kernel) ln_0_44 mf_J9_max_7cf53 rfl (by decide) np_J9_max_7cf53 rfl (Nat.le_of_ble_eq_true rfl) (by decide) (Nat.zero_add _).symm (tq_M_mono (am_J9_max_7cf53 h) ?_)
  refine tq_wi_e (fun r102 z101 h => ?_)
  refine tq_s_istore (i := 4) (L9 := [.ref 46, .ref 50, .int a2, .int (0 : Int32), .int r102, .null, .null, .null, .null]) (by decide +kernel) (by decide) rfl ?_
  exact ac_X0_writeTo_37 h
def wm_X0_writeTo  (z : tq_S) (Q : tq_O → tq_S → Prop) : Prop := (((tq_fi z 2946) = 0 → wc_X0_writeTo_23 Q (0 : Int32) z) ∧ (¬ (tq_fi z 2946) = 0 → (((Int32.ofNat 320) ≤ (0 : Int32) → wc_X0_writeTo_23 Q (0 : Int32) z) ∧ (¬ (Int32.ofNat 320) ≤ (0 : Int32) → ∀ z1 : tq_S, z1 = tq_sai z 50 (upd (tq_ai z 50) (Int32.toNatClampNeg (0 : Int32)) (vp_nar .char (45 : Int32))) → ∀ v2 : Int32, v2 = (0 : Int32) + (1 : Int32) → wc_X0_writeTo_23 Q v2 z1))))
theorem am_X0_writeTo {K : Nat × (Nat → Int32)} {x : Nat} {z : tq_S} {Q : tq_O → tq_S → Prop}  (h : wm_X0_writeTo z Q) : tq_M K 1 x mm_X0_writeTo [.ref 46, .ref 50] z Q := by
  unfold wm_X0_writeTo at h
  refine tq_enter (L := [.ref 46, .ref 50, .null, .null, .null, .null, .null, .null, .null]) mf_X0_writeTo.1 rfl rfl (Nat.le_of_ble_eq_true rfl) ?_
  refine tq_k_ic (n := 0) (v := (0 : Int32)) (by decide +kernel) kc_0 ?_
  refine tq_s_istore_n (kk := 2) (L9 := [.ref 46, .ref 50, .int (0 : Int32), .null, .null, .null, .null, .null, .null]) (by decide +kernel) (by decide) rfl ?_
  refine tq_s_aload_n (kk := 0) (by decide +kernel) rfl ?_
  refine fg_0_17_46 rfl (by decide +kernel) ?_
  refine tq_if_eq (off := 17) (tgt := 23) (by decide +kernel) (by decide +kernel) (fun hc => ?_) (fun hc => ?_)
  · replace h := h.1 hc
    exact ac_X0_writeTo_23 h
  · replace h := h.2 hc
    refine tq_s_iload_n (kk := 2) (by decide +kernel) rfl ?_
    refine tq_s_aload_n (kk := 1) (by decide +kernel) rfl ?_
    refine tq_s_alen (by decide +kernel) sh_50 (by decide) ?_
    refine tq_icmp_ge (off := 11) (tgt := 23) (by decide +kernel) (by decide +kernel) (fun hc => ?_) (fun hc => ?_)
    · replace h := h.1 hc
      exact ac_X0_writeTo_23 h
    · replace h := h.2 hc
      refine tq_s_aload_n (kk := 1) (by decide +kernel) rfl ?_
      refine tq_s_iload_n (kk := 2) (by decide +kernel) rfl ?_
      refine tq_k_bi (n := 45) (v := (45 : Int32)) (by decide +kernel) kb_45 ?_
      refine tq_g_cast (by decide +kernel) sh_50 vi_0_320 (fun z1 ez1 => ?_)
      replace h := h z1 ez1
      refine tq_g_iinc (i := 2) (fun v2 => [.ref 46, .ref 50, .int v2, .null, .null, .null, .null, .null, .null]) (by decide +kernel) rfl (1 : Int32) kc_1 (fun _ => rfl) (fun v2 ev2 => ?_)
      replace h := h v2 ev2
      exact ac_X0_writeTo_23 h
def wm_X11_sayAnswer  (z : tq_S) (Q : tq_O → tq_S → Prop) : Prop := wm_X0_writeTo z (tq_wi fun r2 z1 => ∀ z3 : tq_S, z3 = tq_sfi z1 13 r2 → Q (.inl (some (.int (tq_fi z3 13)))) z3)
theorem am_X11_sayAnswer {K : Nat × (Nat → Int32)} {x : Nat} {z : tq_S} {Q : tq_O → tq_S → Prop}  (h : wm_X11_sayAnswer z Q) : tq_M K 2 x mm_X11_sayAnswer [.ref 0] z Q := by
  unfold wm_X11_sayAnswer at h
  refine tq_enter (L := [.ref 0]) mf_X11_sayAnswer.1 rfl rfl (Nat.le_of_ble_eq_true rfl) ?_
  refine tq_s_aload_n (kk := 0) (by decide +kernel) rfl ?_
  refine tq_s_aload_n (kk := 0) (by decide +kernel) rfl ?_
  refine fg_11_86_0 rfl (by decide +kernel) ?_
  refine tq_s_aload_n (kk := 0) (by decide +kernel) rfl ?_
  refine fg_11_93_0 rfl (by decide +kernel) ?_
  refine tq_callVN (as := [.ref 50]) (st := [.ref 0]) (d1 := 1) (x1 := 0) (x2 := x) (by decide +kernel) ln_11_507 mf_X0_writeTo rfl sh_46 rfl (by decide) np_X0_writeTo rfl (Nat.le_of_ble_eq_true rfl) (by decide) (Nat.zero_add _).symm (tq_M_mono (am_X0_writeTo h) ?_)
  refine tq_wi_e (fun r2 z1 h => ?_)
  refine fp_11_97_0 rfl (by decide +kernel) (fun z3 ez3 => ?_)
  replace h := h z3 ez3
  refine tq_s_aload_n (kk := 0) (by decide +kernel) rfl ?_
  refine fg_11_97_0 rfl (by decide +kernel) ?_
  exact tq_ret_i (st := []) (by decide +kernel) rfl h
def wm_X11_say (a1 : Int64) (z : tq_S) (Q : tq_O → tq_S → Prop) : Prop := wm_X0_put a1 z (tq_wv fun z1 => wm_X11_sayAnswer z1 (tq_wi fun r3 z2 => Q (.inl (some (.int r3))) z2))
theorem am_X11_say {K : Nat × (Nat → Int32)} {x : Nat} {z : tq_S} {Q : tq_O → tq_S → Prop} {a1 : Int64} (h : wm_X11_say a1 z Q) : tq_M K 3 x mm_X11_say [.ref 0, .long a1] z Q := by
  unfold wm_X11_say at h
  refine tq_enter (L := [.ref 0, .long a1, .null]) mf_X11_say.1 rfl rfl (Nat.le_of_ble_eq_true rfl) ?_
  refine tq_s_aload_n (kk := 0) (by decide +kernel) rfl ?_
  refine fg_11_86_0 rfl (by decide +kernel) ?_
  refine tq_s_lload_n (kk := 1) (by decide +kernel) rfl ?_
  refine tq_callVN (as := [.long a1]) (st := []) (d1 := 1) (x1 := 0) (x2 := x) (by decide +kernel) ln_11_500 mf_X0_put rfl sh_46 rfl (by decide) np_X0_put rfl (Nat.le_of_ble_eq_true rfl) (by decide) (Nat.zero_add _).symm (tq_M_mono (am_X0_put h) ?_)
  refine tq_wv_e (fun z1 h => ?_)
  refine tq_s_aload_n (kk := 0) (by decide +kernel) rfl ?_
  refine tq_callV (as := []) (st := []) (d1 := 2) (x1 := 0) (x2 := x) (by decide +kernel) ln_11_394 mf_X11_sayAnswer rfl sh_0 rfl (by decide) np_X11_sayAnswer rfl (Nat.le_of_ble_eq_true rfl) (by decide) (Nat.zero_add _).symm (tq_M_mono (am_X11_sayAnswer h) ?_)
  refine tq_wi_e (fun r3 z2 h => ?_)
  exact tq_ret_i (st := []) (by decide +kernel) rfl h
def wm_X11_covers  (z : tq_S) (Q : tq_O → tq_S → Prop) : Prop := wm_X5_total z (tq_wl fun r2 z1 => wm_X11_say r2 z1 (tq_wi fun r4 z3 => Q (.inl (some (.int r4))) z3))
theorem am_X11_covers {K : Nat × (Nat → Int32)} {x : Nat} {z : tq_S} {Q : tq_O → tq_S → Prop}  (h : wm_X11_covers z Q) : tq_M K 4 x mm_X11_covers [.ref 0] z Q := by
  unfold wm_X11_covers at h
  refine tq_enter (L := [.ref 0]) mf_X11_covers.1 rfl rfl (Nat.le_of_ble_eq_true rfl) ?_
  refine tq_s_aload_n (kk := 0) (by decide +kernel) rfl ?_
  refine tq_s_aload_n (kk := 0) (by decide +kernel) rfl ?_
  refine fg_11_21_0 rfl (by decide +kernel) ?_
  refine tq_callVN (as := []) (st := [.ref 0]) (d1 := 3) (x1 := 0) (x2 := x) (by decide +kernel) ln_11_192 mf_X5_total rfl sh_2 rfl (by decide) np_X5_total rfl (Nat.le_of_ble_eq_true rfl) (by decide) (Nat.zero_add _).symm (tq_M_mono (am_X5_total h) ?_)
  refine tq_wl_e (fun r2 z1 h => ?_)
  refine tq_callV (as := [.long r2]) (st := []) (d1 := 3) (x1 := 0) (x2 := x) (by decide +kernel) ln_11_196 mf_X11_say rfl sh_0 rfl (by decide) np_X11_say rfl (Nat.le_of_ble_eq_true rfl) (by decide) (Nat.zero_add _).symm (tq_M_mono (am_X11_say h) ?_)
  refine tq_wi_e (fun r4 z3 h => ?_)
  exact tq_ret_i (st := []) (by decide +kernel) rfl h
def wm_X1_beside (a1 : Int64) (z : tq_S) (Q : tq_O → tq_S → Prop) : Prop := ∀ v1 : Int64, v1 = ((((a1 <<< ((Int32.toInt64 (8 : Int32)) &&& 63)) ||| ((Int64.toUInt64 a1) >>> ((Int32.toInt64 (8 : Int32)).toUInt64 &&& Int64.toUInt64 63)).toInt64) ||| ((a1 &&& ((-9187201950435737472 : Int64) ^^^ (-1 : Int64))) <<< ((Int32.toInt64 (1 : Int32)) &&& 63))) ||| ((Int64.toUInt64 (a1 &&& (-72340172838076674 : Int64))) >>> ((Int32.toInt64 (1 : Int32)).toUInt64 &&& Int64.toUInt64 63)).toInt64) → (((tq_fi z 66) = 0 → Q (.inl (some (.long v1))) z) ∧ (¬ (tq_fi z 66) = 0 → ∀ v2 : Int64, v2 = (v1 ||| ((a1 &&& (72340172838076673 : Int64)) <<< ((Int32.toInt64 ((tq_fi z 64) - (1 : Int32))) &&& 63))) → ∀ v3 : Int64, v3 = (v2 ||| (((Int64.toUInt64 a1) >>> ((Int32.toInt64 ((tq_fi z 64) - (1 : Int32))).toUInt64 &&& Int64.toUInt64 63)).toInt64 &&& (72340172838076673 : Int64))) → Q (.inl (some (.long v3))) z))
theorem am_X1_beside {K : Nat × (Nat → Int32)} {x : Nat} {z : tq_S} {Q : tq_O → tq_S → Prop} {a1 : Int64} (h : wm_X1_beside a1 z Q) : tq_M K 0 x mm_X1_beside [.ref 1, .long a1] z Q := by
  unfold wm_X1_beside at h
  refine tq_enter (L := [.ref 1, .long a1, .null, .null, .null, .null, .null]) mf_X1_beside.1 rfl rfl (Nat.le_of_ble_eq_true rfl) ?_
  refine tq_s_ldc2 (i := 55) (v := (-9187201950435737472 : Int64)) (by decide +kernel) (by decide +kernel) ?_
  refine tq_s_lstore_n (kk := 3) (L9 := [.ref 1, .long a1, .null, .long (-9187201950435737472 : Int64), .null, .null, .null]) (by decide +kernel) (by decide) rfl ?_
  refine tq_s_lload_n (kk := 1) (by decide +kernel) rfl ?_
  refine tq_k_bi (n := 8) (v := (8 : Int32)) (by decide +kernel) kb_8 ?_
  refine tq_s_lshl (by decide +kernel) ?_
  refine tq_s_lload_n (kk := 1) (by decide +kernel) rfl ?_
  refine tq_k_bi (n := 8) (v := (8 : Int32)) (by decide +kernel) kb_8 ?_
  refine tq_s_lushr (by decide +kernel) ?_
  refine tq_s_lor (by decide +kernel) ?_
  refine tq_s_lload_n (kk := 1) (by decide +kernel) rfl ?_
  refine tq_s_lload_n (kk := 3) (by decide +kernel) rfl ?_
  refine tq_s_ldc2 (i := 57) (v := (-1 : Int64)) (by decide +kernel) (by decide +kernel) ?_
  refine tq_s_lxor (by decide +kernel) ?_
  refine tq_s_land (by decide +kernel) ?_
  refine tq_k_ic (n := 1) (v := (1 : Int32)) (by decide +kernel) kc_1 ?_
  refine tq_s_lshl (by decide +kernel) ?_
  refine tq_s_lor (by decide +kernel) ?_
  refine tq_s_lload_n (kk := 1) (by decide +kernel) rfl ?_
  refine tq_s_ldc2 (i := 59) (v := (-72340172838076674 : Int64)) (by decide +kernel) (by decide +kernel) ?_
  refine tq_s_land (by decide +kernel) ?_
  refine tq_k_ic (n := 1) (v := (1 : Int32)) (by decide +kernel) kc_1 ?_
  refine tq_s_lushr (by decide +kernel) ?_
  refine tq_s_lor (by decide +kernel) ?_
  refine tq_g_lstore (i := 5) (fun v1 => [.ref 1, .long a1, .null, .long (-9187201950435737472 : Int64), .null, .long v1, .null]) (by decide +kernel) (by decide) (fun _ => rfl) (fun v1 ev1 => ?_)
  replace h := h v1 ev1
  refine tq_s_aload_n (kk := 0) (by decide +kernel) rfl ?_
  refine fg_1_16_1 rfl (by decide +kernel) ?_
  refine tq_if_eq (off := 37) (tgt := 74) (by decide +kernel) (by decide +kernel) (fun hc => ?_) (fun hc => ?_)
  · replace h := h.1 hc
    refine tq_s_lload (i := 5) (by decide +kernel) rfl ?_
    exact tq_ret_l (st := []) (by decide +kernel) rfl h
  · replace h := h.2 hc
    refine tq_s_lload (i := 5) (by decide +kernel) rfl ?_
    refine tq_s_lload_n (kk := 1) (by decide +kernel) rfl ?_
    refine tq_s_ldc2 (i := 61) (v := (72340172838076673 : Int64)) (by decide +kernel) (by decide +kernel) ?_
    refine tq_s_land (by decide +kernel) ?_
    refine tq_s_aload_n (kk := 0) (by decide +kernel) rfl ?_
    refine fg_1_7_1 rfl (by decide +kernel) ?_
    refine tq_k_ic (n := 1) (v := (1 : Int32)) (by decide +kernel) kc_1 ?_
    refine tq_s_isub (by decide +kernel) ?_
    refine tq_s_lshl (by decide +kernel) ?_
    refine tq_s_lor (by decide +kernel) ?_
    refine tq_g_lstore (i := 5) (fun v2 => [.ref 1, .long a1, .null, .long (-9187201950435737472 : Int64), .null, .long v2, .null]) (by decide +kernel) (by decide) (fun _ => rfl) (fun v2 ev2 => ?_)
    replace h := h v2 ev2
    refine tq_s_lload (i := 5) (by decide +kernel) rfl ?_
    refine tq_s_lload_n (kk := 1) (by decide +kernel) rfl ?_
    refine tq_s_aload_n (kk := 0) (by decide +kernel) rfl ?_
    refine fg_1_7_1 rfl (by decide +kernel) ?_
    refine tq_k_ic (n := 1) (v := (1 : Int32)) (by decide +kernel) kc_1 ?_
    refine tq_s_isub (by decide +kernel) ?_
    refine tq_s_lushr (by decide +kernel) ?_
    refine tq_s_ldc2 (i := 61) (v := (72340172838076673 : Int64)) (by decide +kernel) (by decide +kernel) ?_
    refine tq_s_land (by decide +kernel) ?_
    refine tq_s_lor (by decide +kernel) ?_
    refine tq_g_lstore (i := 5) (fun v3 => [.ref 1, .long a1, .null, .long (-9187201950435737472 : Int64), .null, .long v3, .null]) (by decide +kernel) (by decide) (fun _ => rfl) (fun v3 ev3 => ?_)
    replace h := h v3 ev3
    refine tq_s_lload (i := 5) (by decide +kernel) rfl ?_
    exact tq_ret_l (st := []) (by decide +kernel) rfl h
def wb_X1_reach_6 (B6 : Int64 → Int32 → tq_S → Prop) (Q : tq_O → tq_S → Prop) (a3 : Int64) (a5 : Int64) (a7 : Int32) (z : tq_S) : Prop := (((64 : Int32) ≤ a7 → Q (.inl (some (.long a5))) z) ∧ (¬ (64 : Int32) ≤ a7 → wm_X1_beside a5 z (tq_wl fun r102 z101 => ∀ v103 : Int64, v103 = (a5 ||| (r102 &&& a3)) → ((¬ v103 = a5 → ∀ v104 : Int32, v104 = a7 + (1 : Int32) → B6 v103 v104 z101) ∧ (v103 = a5 → Q (.inl (some (.long a5))) z101)))))
def wc_X1_reach_6 (Q : tq_O → tq_S → Prop) (a3 : Int64) (a5 : Int64) (a7 : Int32) (z : tq_S) : Prop := tq_lp (σ := Int64 × Int32 × tq_S) (fun B s => wb_X1_reach_6 (fun b5 b7 z => B (b5, b7, z)) Q a3 s.1 s.2.1 s.2.2) (a5, a7, z)
theorem ab_X1_reach_6 {K : Nat × (Nat → Int32)} {x : Nat} {Q : tq_O → tq_S → Prop} {B6 : Int64 → Int32 → tq_S → Prop} {a3 : Int64} {a5 : Int64} {a7 : Int32} {z : tq_S} (hB6 : ∀ (b5 : Int64) (b7 : Int32) (z : tq_S), B6 b5 b7 z → tq_T K 1 x mm_X1_reach 6 [.ref 1, .null, .null, .long a3, .null, .long b5, .null, .int b7, .null, .null] [] z Q) (h : wb_X1_reach_6 B6 Q a3 a5 a7 z) : tq_T K 1 x mm_X1_reach 6 [.ref 1, .null, .null, .long a3, .null, .long a5, .null, .int a7, .null, .null] [] z Q := by
  unfold wb_X1_reach_6 at h
  refine tq_s_iload (i := 7) (by decide +kernel) rfl ?_
  refine tq_k_bi (n := 64) (v := (64 : Int32)) (by decide +kernel) kb_64 ?_
  refine tq_icmp_ge (off := 37) (tgt := 47) (by decide +kernel) (by decide +kernel) (fun hc => ?_) (fun hc => ?_)
  · replace h := h.1 hc
    refine tq_s_lload (i := 5) (by decide +kernel) rfl ?_
    exact tq_ret_l (st := []) (by decide +kernel) rfl h
  · replace h := h.2 hc
    refine tq_s_lload (i := 5) (by decide +kernel) rfl ?_
    refine tq_s_aload_n (kk := 0) (by decide +kernel) rfl ?_
    refine tq_s_lload (i := 5) (by decide +kernel) rfl ?_
    refine tq_callV (as := [.long a5]) (st := [.long a5]) (d1 := 0) (x1 := 0) (x2 := x) (by decide +kernel) ln_1_63 mf_X1_beside rfl sh_1 rfl (by decide) np_X1_beside rfl (Nat.le_of_ble_eq_true rfl) (by decide) (Nat.zero_add _).symm (tq_M_mono (am_X1_beside h) ?_)
    refine tq_wl_e (fun r102 z101 h => ?_)
    refine tq_s_lload_n (kk := 3) (by decide +kernel) rfl ?_
    refine tq_s_land (by decide +kernel) ?_
    refine tq_s_lor (by decide +kernel) ?_
    refine tq_g_lstore (i := 8) (fun v103 => [.ref 1, .null, .null, .long a3, .null, .long a5, .null, .int a7, .long v103, .null]) (by decide +kernel) (by decide) (fun _ => rfl) (fun v103 ev103 => ?_)
    replace h := h v103 ev103
    refine tq_s_lload (i := 8) (by decide +kernel) rfl ?_
    refine tq_s_lload (i := 5) (by decide +kernel) rfl ?_
    refine tq_lcmp_ne (off := 6) (tgt := 37) (by decide +kernel) (by decide +kernel) (by decide +kernel) (fun hc => ?_) (fun hc => ?_)
    · replace h := h.1 hc
      refine tq_s_lload (i := 8) (by decide +kernel) rfl ?_
      refine tq_s_lstore (i := 5) (L9 := [.ref 1, .null, .null, .long a3, .null, .long v103, .null, .int a7, .long v103, .null]) (by decide +kernel) (by decide) rfl ?_
      refine tq_g_iinc (i := 7) (fun v104 => [.ref 1, .null, .null, .long a3, .null, .long v103, .null, .int v104, .long v103, .null]) (by decide +kernel) rfl (1 : Int32) kc_1 (fun _ => rfl) (fun v104 ev104 => ?_)
      replace h := h v104 ev104
      refine tq_s_goto (off := -38) (tgt := 6) (by decide +kernel) (by decide +kernel) ?_
      exact tq_to (tq_lk1 (tq_lk1 (tq_lk1 (tq_lk1 (tq_lk1 (tq_lk1 (tq_lk1 (tq_lk1 (tq_ld1 (tq_lk1 tq_l0)))))))))) (hB6 _ _ _ h)
    · replace h := h.2 hc
      refine tq_s_goto (off := 13) (tgt := 47) (by decide +kernel) (by decide +kernel) ?_
      refine tq_s_lload (i := 5) (by decide +kernel) rfl ?_
      exact tq_ret_l (st := []) (by decide +kernel) rfl h
theorem ac_X1_reach_6 {K : Nat × (Nat → Int32)} {x : Nat} {Q : tq_O → tq_S → Prop} {a3 : Int64} {a5 : Int64} {a7 : Int32} {z : tq_S} (h : wc_X1_reach_6 Q a3 a5 a7 z) : tq_T K 1 x mm_X1_reach 6 [.ref 1, .null, .null, .long a3, .null, .long a5, .null, .int a7, .null, .null] [] z Q :=
  tq_lp_T (σ := Int64 × Int32 × tq_S) (s := (a5, a7, z)) (G := fun s => tq_T K 1 x mm_X1_reach 6 [.ref 1, .null, .null, .long a3, .null, .long s.1, .null, .int s.2.1, .null, .null] [] s.2.2 Q) (fun B hB s h => ab_X1_reach_6 (fun b5 b7 z h => hB (b5, b7, z) h) h) h
def wm_X1_reach (a1 : Int64) (a3 : Int64) (z : tq_S) (Q : tq_O → tq_S → Prop) : Prop := wc_X1_reach_6 Q a3 a1 (0 : Int32) z
theorem am_X1_reach {K : Nat × (Nat → Int32)} {x : Nat} {z : tq_S} {Q : tq_O → tq_S → Prop} {a1 : Int64} {a3 : Int64} (h : wm_X1_reach a1 a3 z Q) : tq_M K 1 x mm_X1_reach [.ref 1, .long a1, .long a3] z Q := by
  unfold wm_X1_reach at h
  refine tq_enter (L := [.ref 1, .long a1, .null, .long a3, .null, .null, .null, .null, .null, .null]) mf_X1_reach.1 rfl rfl (Nat.le_of_ble_eq_true rfl) ?_
  refine tq_s_lload_n (kk := 1) (by decide +kernel) rfl ?_
  refine tq_s_lstore (i := 5) (L9 := [.ref 1, .long a1, .null, .long a3, .null, .long a1, .null, .null, .null, .null]) (by decide +kernel) (by decide) rfl ?_
  refine tq_k_ic (n := 0) (v := (0 : Int32)) (by decide +kernel) kc_0 ?_
  refine tq_s_istore (i := 7) (L9 := [.ref 1, .long a1, .null, .long a3, .null, .long a1, .null, .int (0 : Int32), .null, .null]) (by decide +kernel) (by decide) rfl ?_
  exact tq_to (tq_lk1 (tq_ld1 (tq_lk1 (tq_lk1 (tq_lk1 (tq_lk1 (tq_lk1 (tq_lk1 (tq_lk1 (tq_lk1 tq_l0)))))))))) (ac_X1_reach_6 h)
def wc_X1_countGroups_59 (B9 : Int32 → Int64 → Int32 → tq_S → Prop) (Q : tq_O → tq_S → Prop) (a1 : Int64) (a3 : Int64) (a5 : Int32) (a6 : Int64) (a8 : Int32) (z : tq_S) : Prop := ∀ v101 : Int32, v101 = a8 + (1 : Int32) → B9 a5 a6 v101 z
theorem ac_X1_countGroups_59 {K : Nat × (Nat → Int32)} {x : Nat} {Q : tq_O → tq_S → Prop} {B9 : Int32 → Int64 → Int32 → tq_S → Prop} {a1 : Int64} {a3 : Int64} {a5 : Int32} {a6 : Int64} {a8 : Int32} {z : tq_S} (hB9 : ∀ (b5 : Int32) (b6 : Int64) (b8 : Int32) (z : tq_S), B9 b5 b6 b8 z → tq_T K 2 x mm_X1_countGroups 9 [.ref 1, .long a1, .null, .long a3, .null, .int b5, .long b6, .null, .int b8, .null, .null] [] z Q) (h : wc_X1_countGroups_59 B9 Q a1 a3 a5 a6 a8 z) : tq_T K 2 x mm_X1_countGroups 59 [.ref 1, .long a1, .null, .long a3, .null, .int a5, .long a6, .null, .int a8, .null, .null] [] z Q := by
  unfold wc_X1_countGroups_59 at h
  refine tq_g_iinc (i := 8) (fun v101 => [.ref 1, .long a1, .null, .long a3, .null, .int a5, .long a6, .null, .int v101, .null, .null]) (by decide +kernel) rfl (1 : Int32) kc_1 (fun _ => rfl) (fun v101 ev101 => ?_)
  replace h := h v101 ev101
  refine tq_s_goto (off := -53) (tgt := 9) (by decide +kernel) (by decide +kernel) ?_
  exact hB9 _ _ _ _ h
def wb_X1_countGroups_9 (B9 : Int32 → Int64 → Int32 → tq_S → Prop) (Q : tq_O → tq_S → Prop) (a1 : Int64) (a3 : Int64) (a5 : Int32) (a6 : Int64) (a8 : Int32) (z : tq_S) : Prop := (((64 : Int32) ≤ a8 → Q (.inl (some (.int a5))) z) ∧ (¬ (64 : Int32) ≤ a8 → ((a6 = (0 : Int64) → Q (.inl (some (.int a5))) z) ∧ (¬ a6 = (0 : Int64) → wm_X1_reach (a6 &&& (-a6)) a1 z (tq_wl fun r102 z101 => ∀ v103 : Int64, v103 = (a6 &&& (r102 ^^^ (-1 : Int64))) → ((¬ (r102 &&& a3) = (0 : Int64) → wc_X1_countGroups_59 B9 Q a1 a3 a5 v103 a8 z101) ∧ ((r102 &&& a3) = (0 : Int64) → ∀ v104 : Int32, v104 = a5 + (1 : Int32) → wc_X1_countGroups_59 B9 Q a1 a3 v104 v103 a8 z101)))))))
def wc_X1_countGroups_9 (Q : tq_O → tq_S → Prop) (a1 : Int64) (a3 : Int64) (a5 : Int32) (a6 : Int64) (a8 : Int32) (z : tq_S) : Prop := tq_lp (σ := Int32 × Int64 × Int32 × tq_S) (fun B s => wb_X1_countGroups_9 (fun b5 b6 b8 z => B (b5, b6, b8, z)) Q a1 a3 s.1 s.2.1 s.2.2.1 s.2.2.2) (a5, a6, a8, z)
theorem ab_X1_countGroups_9 {K : Nat × (Nat → Int32)} {x : Nat} {Q : tq_O → tq_S → Prop} {B9 : Int32 → Int64 → Int32 → tq_S → Prop} {a1 : Int64} {a3 : Int64} {a5 : Int32} {a6 : Int64} {a8 : Int32} {z : tq_S} (hB9 : ∀ (b5 : Int32) (b6 : Int64) (b8 : Int32) (z : tq_S), B9 b5 b6 b8 z → tq_T K 2 x mm_X1_countGroups 9 [.ref 1, .long a1, .null, .long a3, .null, .int b5, .long b6, .null, .int b8, .null, .null] [] z Q) (h : wb_X1_countGroups_9 B9 Q a1 a3 a5 a6 a8 z) : tq_T K 2 x mm_X1_countGroups 9 [.ref 1, .long a1, .null, .long a3, .null, .int a5, .long a6, .null, .int a8, .null, .null] [] z Q := by
  unfold wb_X1_countGroups_9 at h
  refine tq_s_iload (i := 8) (by decide +kernel) rfl ?_
  refine tq_k_bi (n := 64) (v := (64 : Int32)) (by decide +kernel) kb_64 ?_
  refine tq_icmp_ge (off := 52) (tgt := 65) (by decide +kernel) (by decide +kernel) (fun hc => ?_) (fun hc => ?_)
  · replace h := h.1 hc
    refine tq_s_iload (i := 5) (by decide +kernel) rfl ?_
    exact tq_ret_i (st := []) (by decide +kernel) rfl h
  · replace h := h.2 hc
    refine tq_s_lload (i := 6) (by decide +kernel) rfl ?_
    refine tq_k_lc (n := 0) (v := (0 : Int64)) (by decide +kernel) (by decide +kernel) ?_
    refine tq_lcmp_eq (off := 45) (tgt := 65) (by decide +kernel) (by decide +kernel) (by decide +kernel) (fun hc => ?_) (fun hc => ?_)
    · replace h := h.1 hc
      refine tq_s_iload (i := 5) (by decide +kernel) rfl ?_
      exact tq_ret_i (st := []) (by decide +kernel) rfl h
    · replace h := h.2 hc
      refine tq_s_aload_n (kk := 0) (by decide +kernel) rfl ?_
      refine tq_s_lload (i := 6) (by decide +kernel) rfl ?_
      refine tq_s_lload (i := 6) (by decide +kernel) rfl ?_
      refine tq_s_lneg (by decide +kernel) ?_
      refine tq_s_land (by decide +kernel) ?_
      refine tq_s_lload_n (kk := 1) (by decide +kernel) rfl ?_
      refine tq_callV (as := [.long (a6 &&& (-a6)), .long a1]) (st := []) (d1 := 1) (x1 := 0) (x2 := x) (by decide +kernel) ln_1_67 mf_X1_reach rfl sh_1 rfl (by decide) np_X1_reach rfl (Nat.le_of_ble_eq_true rfl) (by decide) (Nat.zero_add _).symm (tq_M_mono (am_X1_reach h) ?_)
      refine tq_wl_e (fun r102 z101 h => ?_)
      refine tq_s_lstore (i := 9) (L9 := [.ref 1, .long a1, .null, .long a3, .null, .int a5, .long a6, .null, .int a8, .long r102, .null]) (by decide +kernel) (by decide) rfl ?_
      refine tq_s_lload (i := 6) (by decide +kernel) rfl ?_
      refine tq_s_lload (i := 9) (by decide +kernel) rfl ?_
      refine tq_s_ldc2 (i := 57) (v := (-1 : Int64)) (by decide +kernel) (by decide +kernel) ?_
      refine tq_s_lxor (by decide +kernel) ?_
      refine tq_s_land (by decide +kernel) ?_
      refine tq_g_lstore (i := 6) (fun v103 => [.ref 1, .long a1, .null, .long a3, .null, .int a5, .long v103, .null, .int a8, .long r102, .null]) (by decide +kernel) (by decide) (fun _ => rfl) (fun v103 ev103 => ?_)
      replace h := h v103 ev103
      refine tq_s_lload (i := 9) (by decide +kernel) rfl ?_
      refine tq_s_lload_n (kk := 3) (by decide +kernel) rfl ?_
      refine tq_s_land (by decide +kernel) ?_
      refine tq_k_lc (n := 0) (v := (0 : Int64)) (by decide +kernel) (by decide +kernel) ?_
      refine tq_lcmp_ne (off := 6) (tgt := 59) (by decide +kernel) (by decide +kernel) (by decide +kernel) (fun hc => ?_) (fun hc => ?_)
      · replace h := h.1 hc
        exact tq_to (tq_lk1 (tq_lk1 (tq_lk1 (tq_lk1 (tq_lk1 (tq_lk1 (tq_lk1 (tq_lk1 (tq_lk1 (tq_ld1 (tq_lk1 tq_l0))))))))))) (ac_X1_countGroups_59 hB9 h)
      · replace h := h.2 hc
        refine tq_g_iinc (i := 5) (fun v104 => [.ref 1, .long a1, .null, .long a3, .null, .int v104, .long v103, .null, .int a8, .long r102, .null]) (by decide +kernel) rfl (1 : Int32) kc_1 (fun _ => rfl) (fun v104 ev104 => ?_)
        replace h := h v104 ev104
        exact tq_to (tq_lk1 (tq_lk1 (tq_lk1 (tq_lk1 (tq_lk1 (tq_lk1 (tq_lk1 (tq_lk1 (tq_lk1 (tq_ld1 (tq_lk1 tq_l0))))))))))) (ac_X1_countGroups_59 hB9 h)
theorem ac_X1_countGroups_9 {K : Nat × (Nat → Int32)} {x : Nat} {Q : tq_O → tq_S → Prop} {a1 : Int64} {a3 : Int64} {a5 : Int32} {a6 : Int64} {a8 : Int32} {z : tq_S} (h : wc_X1_countGroups_9 Q a1 a3 a5 a6 a8 z) : tq_T K 2 x mm_X1_countGroups 9 [.ref 1, .long a1, .null, .long a3, .null, .int a5, .long a6, .null, .int a8, .null, .null] [] z Q :=
  tq_lp_T (σ := Int32 × Int64 × Int32 × tq_S) (s := (a5, a6, a8, z)) (G := fun s => tq_T K 2 x mm_X1_countGroups 9 [.ref 1, .long a1, .null, .long a3, .null, .int s.1, .long s.2.1, .null, .int s.2.2.1, .null, .null] [] s.2.2.2 Q) (fun B hB s h => ab_X1_countGroups_9 (fun b5 b6 b8 z h => hB (b5, b6, b8, z) h) h) h
def wm_X1_countGroups (a1 : Int64) (a3 : Int64) (z : tq_S) (Q : tq_O → tq_S → Prop) : Prop := wc_X1_countGroups_9 Q a1 a3 (0 : Int32) a1 (0 : Int32) z
theorem am_X1_countGroups {K : Nat × (Nat → Int32)} {x : Nat} {z : tq_S} {Q : tq_O → tq_S → Prop} {a1 : Int64} {a3 : Int64} (h : wm_X1_countGroups a1 a3 z Q) : tq_M K 2 x mm_X1_countGroups [.ref 1, .long a1, .long a3] z Q := by
  unfold wm_X1_countGroups at h
  refine tq_enter (L := [.ref 1, .long a1, .null, .long a3, .null, .null, .null, .null, .null, .null, .null]) mf_X1_countGroups.1 rfl rfl (Nat.le_of_ble_eq_true rfl) ?_
  refine tq_k_ic (n := 0) (v := (0 : Int32)) (by decide +kernel) kc_0 ?_
  refine tq_s_istore (i := 5) (L9 := [.ref 1, .long a1, .null, .long a3, .null, .int (0 : Int32), .null, .null, .null, .null, .null]) (by decide +kernel) (by decide) rfl ?_
  refine tq_s_lload_n (kk := 1) (by decide +kernel) rfl ?_
  refine tq_s_lstore (i := 6) (L9 := [.ref 1, .long a1, .null, .long a3, .null, .int (0 : Int32), .long a1, .null, .null, .null, .null]) (by decide +kernel) (by decide) rfl ?_
  refine tq_k_ic (n := 0) (v := (0 : Int32)) (by decide +kernel) kc_0 ?_
  refine tq_s_istore (i := 8) (L9 := [.ref 1, .long a1, .null, .long a3, .null, .int (0 : Int32), .long a1, .null, .int (0 : Int32), .null, .null]) (by decide +kernel) (by decide) rfl ?_
  exact ac_X1_countGroups_9 h
def wc_X1_countHoles_42 (Q : tq_O → tq_S → Prop) (a1 : Int64) (z : tq_S) : Prop := wm_X1_rectangleOf (tq_fi z 64) (tq_fi z 65) z (tq_wl fun r102 z101 => wm_X1_countGroups (r102 &&& ((tq_fl z101 67) ^^^ (-1 : Int64))) a1 z101 (tq_wi fun r104 z103 => Q (.inl (some (.int r104))) z103))
theorem ac_X1_countHoles_42 {K : Nat × (Nat → Int32)} {x : Nat} {Q : tq_O → tq_S → Prop} {a1 : Int64} {z : tq_S} (h : wc_X1_countHoles_42 Q a1 z) : tq_T K 3 x mm_X1_countHoles 42 [.ref 1, .long a1, .null] [] z Q := by
  unfold wc_X1_countHoles_42 at h
  refine tq_s_aload_n (kk := 0) (by decide +kernel) rfl ?_
  refine tq_s_aload_n (kk := 0) (by decide +kernel) rfl ?_
  refine fg_1_7_1 rfl (by decide +kernel) ?_
  refine tq_s_aload_n (kk := 0) (by decide +kernel) rfl ?_
  refine fg_1_13_1 rfl (by decide +kernel) ?_
  refine tq_callS (as := [.int (tq_fi z 64), .int (tq_fi z 65)]) (st := [.ref 1]) (d1 := 0) (x1 := 0) (x2 := x) (by decide +kernel) ln_1_77 mf_X1_rectangleOf rfl (by decide) np_X1_rectangleOf rfl (Nat.le_of_ble_eq_true rfl) (by decide) (Nat.zero_add _).symm (tq_M_mono (am_X1_rectangleOf h) ?_)
  refine tq_wl_e (fun r102 z101 h => ?_)
  refine tq_s_aload_n (kk := 0) (by decide +kernel) rfl ?_
  refine fg_1_20_1 rfl (by decide +kernel) ?_
  refine tq_s_ldc2 (i := 57) (v := (-1 : Int64)) (by decide +kernel) (by decide +kernel) ?_
  refine tq_s_lxor (by decide +kernel) ?_
  refine tq_s_land (by decide +kernel) ?_
  refine tq_s_lload_n (kk := 1) (by decide +kernel) rfl ?_
  refine tq_callV (as := [.long (r102 &&& ((tq_fl z101 67) ^^^ (-1 : Int64))), .long a1]) (st := []) (d1 := 2) (x1 := 0) (x2 := x) (by decide +kernel) ln_1_71 mf_X1_countGroups rfl sh_1 rfl (by decide) np_X1_countGroups rfl (Nat.le_of_ble_eq_true rfl) (by decide) (Nat.zero_add _).symm (tq_M_mono (am_X1_countGroups h) ?_)
  refine tq_wi_e (fun r104 z103 h => ?_)
  exact tq_ret_i (st := []) (by decide +kernel) rfl h
def wm_X1_countHoles  (z : tq_S) (Q : tq_O → tq_S → Prop) : Prop := ∀ v1 : Int64, v1 = ((255 : Int64) ||| ((255 : Int64) <<< ((Int32.toInt64 ((8 : Int32) * ((tq_fi z 65) - (1 : Int32)))) &&& 63))) → ((¬ (tq_fi z 66) = 0 → wc_X1_countHoles_42 Q v1 z) ∧ ((tq_fi z 66) = 0 → ∀ v2 : Int64, v2 = (v1 ||| ((72340172838076673 : Int64) ||| ((72340172838076673 : Int64) <<< ((Int32.toInt64 ((tq_fi z 64) - (1 : Int32))) &&& 63)))) → wc_X1_countHoles_42 Q v2 z))
theorem am_X1_countHoles {K : Nat × (Nat → Int32)} {x : Nat} {z : tq_S} {Q : tq_O → tq_S → Prop}  (h : wm_X1_countHoles z Q) : tq_M K 3 x mm_X1_countHoles [.ref 1] z Q := by
  unfold wm_X1_countHoles at h
  refine tq_enter (L := [.ref 1, .null, .null]) mf_X1_countHoles.1 rfl rfl (Nat.le_of_ble_eq_true rfl) ?_
  refine tq_s_ldc2 (i := 75) (v := (255 : Int64)) (by decide +kernel) (by decide +kernel) ?_
  refine tq_s_ldc2 (i := 75) (v := (255 : Int64)) (by decide +kernel) (by decide +kernel) ?_
  refine tq_k_bi (n := 8) (v := (8 : Int32)) (by decide +kernel) kb_8 ?_
  refine tq_s_aload_n (kk := 0) (by decide +kernel) rfl ?_
  refine fg_1_13_1 rfl (by decide +kernel) ?_
  refine tq_k_ic (n := 1) (v := (1 : Int32)) (by decide +kernel) kc_1 ?_
  refine tq_s_isub (by decide +kernel) ?_
  refine tq_s_imul (by decide +kernel) ?_
  refine tq_s_lshl (by decide +kernel) ?_
  refine tq_s_lor (by decide +kernel) ?_
  refine tq_g_lstore_n (kk := 1) (fun v1 => [.ref 1, .long v1, .null]) (by decide +kernel) (by decide) (fun _ => rfl) (fun v1 ev1 => ?_)
  replace h := h v1 ev1
  refine tq_s_aload_n (kk := 0) (by decide +kernel) rfl ?_
  refine fg_1_16_1 rfl (by decide +kernel) ?_
  refine tq_if_ne (off := 20) (tgt := 42) (by decide +kernel) (by decide +kernel) (fun hc => ?_) (fun hc => ?_)
  · replace h := h.1 hc
    exact ac_X1_countHoles_42 h
  · replace h := h.2 hc
    refine tq_s_lload_n (kk := 1) (by decide +kernel) rfl ?_
    refine tq_s_ldc2 (i := 61) (v := (72340172838076673 : Int64)) (by decide +kernel) (by decide +kernel) ?_
    refine tq_s_ldc2 (i := 61) (v := (72340172838076673 : Int64)) (by decide +kernel) (by decide +kernel) ?_
    refine tq_s_aload_n (kk := 0) (by decide +kernel) rfl ?_
    refine fg_1_7_1 rfl (by decide +kernel) ?_
    refine tq_k_ic (n := 1) (v := (1 : Int32)) (by decide +kernel) kc_1 ?_
    refine tq_s_isub (by decide +kernel) ?_
    refine tq_s_lshl (by decide +kernel) ?_
    refine tq_s_lor (by decide +kernel) ?_
    refine tq_s_lor (by decide +kernel) ?_
    refine tq_g_lstore_n (kk := 1) (fun v2 => [.ref 1, .long v2, .null]) (by decide +kernel) (by decide) (fun _ => rfl) (fun v2 ev2 => ?_)
    replace h := h v2 ev2
    exact ac_X1_countHoles_42 h
def wm_X1_isPlain  (z : tq_S) (Q : tq_O → tq_S → Prop) : Prop := ((¬ (tq_fi z 66) = 0 → Q (.inl (some (.int (0 : Int32)))) z) ∧ ((tq_fi z 66) = 0 → wm_X1_countHoles z (tq_wi fun r2 z1 => ((¬ r2 = 0 → Q (.inl (some (.int (0 : Int32)))) z1) ∧ (r2 = 0 → Q (.inl (some (.int (1 : Int32)))) z1)))))
theorem am_X1_isPlain {K : Nat × (Nat → Int32)} {x : Nat} {z : tq_S} {Q : tq_O → tq_S → Prop}  (h : wm_X1_isPlain z Q) : tq_M K 4 x mm_X1_isPlain [.ref 1] z Q := by
  unfold wm_X1_isPlain at h
  refine tq_enter (L := [.ref 1]) mf_X1_isPlain.1 rfl rfl (Nat.le_of_ble_eq_true rfl) ?_
  refine tq_s_aload_n (kk := 0) (by decide +kernel) rfl ?_
  refine fg_1_16_1 rfl (by decide +kernel) ?_
  refine tq_if_ne (off := 14) (tgt := 18) (by decide +kernel) (by decide +kernel) (fun hc => ?_) (fun hc => ?_)
  · replace h := h.1 hc
    refine tq_k_ic (n := 0) (v := (0 : Int32)) (by decide +kernel) kc_0 ?_
    exact tq_ret_z (st := []) (ty := .boolean) (by decide +kernel) (by decide +kernel) rfl h
  · replace h := h.2 hc
    refine tq_s_aload_n (kk := 0) (by decide +kernel) rfl ?_
    refine tq_callV (as := []) (st := []) (d1 := 3) (x1 := 0) (x2 := x) (by decide +kernel) ln_1_80 mf_X1_countHoles rfl sh_1 rfl (by decide) np_X1_countHoles rfl (Nat.le_of_ble_eq_true rfl) (by decide) (Nat.zero_add _).symm (tq_M_mono (am_X1_countHoles h) ?_)
    refine tq_wi_e (fun r2 z1 h => ?_)
    refine tq_if_ne (off := 7) (tgt := 18) (by decide +kernel) (by decide +kernel) (fun hc => ?_) (fun hc => ?_)
    · replace h := h.1 hc
      refine tq_k_ic (n := 0) (v := (0 : Int32)) (by decide +kernel) kc_0 ?_
      exact tq_ret_z (st := []) (ty := .boolean) (by decide +kernel) (by decide +kernel) rfl h
    · replace h := h.2 hc
      refine tq_k_ic (n := 1) (v := (1 : Int32)) (by decide +kernel) kc_1 ?_
      refine tq_s_goto (off := 4) (tgt := 19) (by decide +kernel) (by decide +kernel) ?_
      exact tq_ret_z (st := []) (ty := .boolean) (by decide +kernel) (by decide +kernel) rfl h
def wm_X3_prime (a0 : Int32) (z : tq_S) (Q : tq_O → tq_S → Prop) : Prop := ((¬ a0 = 0 → ((¬ a0 = (1 : Int32) → Q (.inl (some (.long (2147483587 : Int64)))) z) ∧ (a0 = (1 : Int32) → Q (.inl (some (.long (2147483629 : Int64)))) z))) ∧ (a0 = 0 → Q (.inl (some (.long (2147483647 : Int64)))) z))
theorem am_X3_prime {K : Nat × (Nat → Int32)} {x : Nat} {z : tq_S} {Q : tq_O → tq_S → Prop} {a0 : Int32} (h : wm_X3_prime a0 z Q) : tq_M K 0 x mm_X3_prime [.int a0] z Q := by
  unfold wm_X3_prime at h
  refine tq_enter (L := [.int a0]) mf_X3_prime.1 rfl rfl (Nat.le_of_ble_eq_true rfl) ?_
  refine tq_s_iload_n (kk := 0) (by decide +kernel) rfl ?_
  refine tq_if_ne (off := 7) (tgt := 8) (by decide +kernel) (by decide +kernel) (fun hc => ?_) (fun hc => ?_)
  · replace h := h.1 hc
    refine tq_s_iload_n (kk := 0) (by decide +kernel) rfl ?_
    refine tq_k_ic (n := 1) (v := (1 : Int32)) (by decide +kernel) kc_1 ?_
    refine tq_icmp_ne (off := 9) (tgt := 19) (by decide +kernel) (by decide +kernel) (fun hc => ?_) (fun hc => ?_)
    · replace h := h.1 hc
      refine tq_s_ldc2 (i := 20) (v := (2147483587 : Int64)) (by decide +kernel) (by decide +kernel) ?_
      exact tq_ret_l (st := []) (by decide +kernel) rfl h
    · replace h := h.2 hc
      refine tq_s_ldc2 (i := 18) (v := (2147483629 : Int64)) (by decide +kernel) (by decide +kernel) ?_
      refine tq_s_goto (off := 6) (tgt := 22) (by decide +kernel) (by decide +kernel) ?_
      exact tq_ret_l (st := []) (by decide +kernel) rfl h
  · replace h := h.2 hc
    refine tq_s_ldc2 (i := 16) (v := (2147483647 : Int64)) (by decide +kernel) (by decide +kernel) ?_
    exact tq_ret_l (st := []) (by decide +kernel) rfl h
def wb_J7_fill_d0a16_r1_6 (B6 : Int32 → tq_S → Prop) (Q : tq_O → tq_S → Prop) (a1 : Int64) (a3 : Int32) (a4 : Int32) (z : tq_S) : Prop := ((a4 ≤ a3 → Q (.inl none) z) ∧ (¬ a4 ≤ a3 → vp_in a3 1024 ∧ ∀ z101 : tq_S, z101 = tq_sal z 17 (vp_updL (tq_al z 17) (Int32.toNatClampNeg a3) a1) → ∀ v102 : Int32, v102 = a3 + (1 : Int32) → B6 v102 z101))
def wc_J7_fill_d0a16_r1_6 (Q : tq_O → tq_S → Prop) (a1 : Int64) (a3 : Int32) (a4 : Int32) (z : tq_S) : Prop := tq_lp (σ := Int32 × tq_S) (fun B s => wb_J7_fill_d0a16_r1_6 (fun b3 z => B (b3, z)) Q a1 s.1 a4 s.2) (a3, z)
theorem ab_J7_fill_d0a16_r1_6 {K : Nat × (Nat → Int32)} {x : Nat} {Q : tq_O → tq_S → Prop} {B6 : Int32 → tq_S → Prop} {a1 : Int64} {a3 : Int32} {a4 : Int32} {z : tq_S} (hB6 : ∀ (b3 : Int32) (z : tq_S), B6 b3 z → tq_T K 0 x mm_J7_fill_d0a16 6 [.ref 17, .long a1, .null, .int b3, .int a4] [] z Q) (h : wb_J7_fill_d0a16_r1_6 B6 Q a1 a3 a4 z) : tq_T K 0 x mm_J7_fill_d0a16 6 [.ref 17, .long a1, .null, .int a3, .int a4] [] z Q := by
  unfold wb_J7_fill_d0a16_r1_6 at h
  refine tq_s_iload_n (kk := 3) (by decide +kernel) rfl ?_
  refine tq_s_iload (i := 4) (by decide +kernel) rfl ?_
  refine tq_icmp_ge (off := 13) (tgt := 22) (by decide +kernel) (by decide +kernel) (fun hc => ?_) (fun hc => ?_)
  · replace h := h.1 hc
    exact tq_ret_v (st := []) (by decide +kernel) rfl h
  · replace h := h.2 hc
    refine tq_s_aload_n (kk := 0) (by decide +kernel) rfl ?_
    refine tq_s_iload_n (kk := 3) (by decide +kernel) rfl ?_
    refine tq_s_lload_n (kk := 1) (by decide +kernel) rfl ?_
    refine tq_g_last (by decide +kernel) sh_17 h.1 (fun z101 ez101 => ?_)
    replace h := h.2 z101 ez101
    refine tq_g_iinc (i := 3) (fun v102 => [.ref 17, .long a1, .null, .int v102, .int a4]) (by decide +kernel) rfl (1 : Int32) kc_1 (fun _ => rfl) (fun v102 ev102 => ?_)
    replace h := h v102 ev102
    refine tq_s_goto (off := -13) (tgt := 6) (by decide +kernel) (by decide +kernel) ?_
    exact hB6 _ _ h
theorem ac_J7_fill_d0a16_r1_6 {K : Nat × (Nat → Int32)} {x : Nat} {Q : tq_O → tq_S → Prop} {a1 : Int64} {a3 : Int32} {a4 : Int32} {z : tq_S} (h : wc_J7_fill_d0a16_r1_6 Q a1 a3 a4 z) : tq_T K 0 x mm_J7_fill_d0a16 6 [.ref 17, .long a1, .null, .int a3, .int a4] [] z Q :=
  tq_lp_T (σ := Int32 × tq_S) (s := (a3, z)) (G := fun s => tq_T K 0 x mm_J7_fill_d0a16 6 [.ref 17, .long a1, .null, .int s.1, .int a4] [] s.2 Q) (fun B hB s h => ab_J7_fill_d0a16_r1_6 (fun b3 z h => hB (b3, z) h) h) h
def wm_J7_fill_d0a16_r1 (a1 : Int64) (z : tq_S) (Q : tq_O → tq_S → Prop) : Prop := ∀ v1 : Int32, v1 = (Int32.ofNat 1024) → wc_J7_fill_d0a16_r1_6 Q a1 (0 : Int32) v1 z
theorem am_J7_fill_d0a16_r1 {K : Nat × (Nat → Int32)} {x : Nat} {z : tq_S} {Q : tq_O → tq_S → Prop} {a1 : Int64} (h : wm_J7_fill_d0a16_r1 a1 z Q) : tq_M K 0 x mm_J7_fill_d0a16 [.ref 17, .long a1] z Q := by
  unfold wm_J7_fill_d0a16_r1 at h
  refine tq_enter (L := [.ref 17, .long a1, .null, .null, .null]) mf_J7_fill_d0a16.1 rfl rfl (Nat.le_of_ble_eq_true rfl) ?_
  refine tq_k_ic (n := 0) (v := (0 : Int32)) (by decide +kernel) kc_0 ?_
  refine tq_s_istore_n (kk := 3) (L9 := [.ref 17, .long a1, .null, .int (0 : Int32), .null]) (by decide +kernel) (by decide) rfl ?_
  refine tq_s_aload_n (kk := 0) (by decide +kernel) rfl ?_
  refine tq_s_alen (by decide +kernel) sh_17 (by decide) ?_
  refine tq_g_istore (i := 4) (fun v1 => [.ref 17, .long a1, .null, .int (0 : Int32), .int v1]) (by decide +kernel) (by decide) (fun _ => rfl) (fun v1 ev1 => ?_)
  replace h := h v1 ev1
  exact ac_J7_fill_d0a16_r1_6 h
