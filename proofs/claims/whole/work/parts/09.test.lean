def wm_J9_min_7cf53 (a0 : Int32) (a1 : Int32) (z : tq_S) (Q : tq_O → tq_S → Prop) : Prop := ((a1 < a0 → Q (.inl (some (.int a1))) z) ∧ (¬ a1 < a0 → Q (.inl (some (.int a0))) z))
theorem am_J9_min_7cf53 {K : Nat × (Nat → Int32)} {x : Nat} {z : tq_S} {Q : tq_O → tq_S → Prop} {a0 : Int32} {a1 : Int32} (h : wm_J9_min_7cf53 a0 a1 z Q) : tq_M K 0 x mm_J9_min_7cf53 [.int a0, .int a1] z Q := by
  unfold wm_J9_min_7cf53 at h
  refine tq_enter (L := [.int a0, .int a1]) mf_J9_min_7cf53.1 rfl rfl (by decide) ?_
  refine tq_s_iload_n (kk := 0) (by decide +kernel) rfl ?_
  refine tq_s_iload_n (kk := 1) (by decide +kernel) rfl ?_
  refine tq_icmp_gt (off := 7) (tgt := 9) (by decide +kernel) (by decide +kernel) (fun hc => ?_) (fun hc => ?_)
  · replace h := h.1 hc
    refine tq_s_iload_n (kk := 1) (by decide +kernel) rfl ?_
    exact tq_ret_i (by decide +kernel) rfl h
  · replace h := h.2 hc
    refine tq_s_iload_n (kk := 0) (by decide +kernel) rfl ?_
    refine tq_s_goto (off := 4) (tgt := 10) (by decide +kernel) (by decide +kernel) ?_
    exact tq_ret_i (by decide +kernel) rfl h
def wb_X1_rectangleOf_12 (B12 : Int64 → Int32 → tq_S → Prop) (Q : tq_O → tq_S → Prop) (a1 : Int32) (a2 : Int64) (a4 : Int64) (a6 : Int32) (z : tq_S) : Prop := ((a1 ≤ a6 → Q (.inl (some (.long a4))) z) ∧ (¬ a1 ≤ a6 → ∀ v101 : Int64, v101 = (a4 ||| (a2 <<< ((Int32.toInt64 ((8 : Int32) * a6)) &&& 63))) → ∀ v102 : Int32, v102 = a6 + (1 : Int32) → B12 v101 v102 z))
def wc_X1_rectangleOf_12 (Q : tq_O → tq_S → Prop) (a1 : Int32) (a2 : Int64) (a4 : Int64) (a6 : Int32) (z : tq_S) : Prop := tq_lp (σ := Int64 × Int32 × tq_S) (fun B s => wb_X1_rectangleOf_12 (fun b4 b6 z => B (b4, b6, z)) Q a1 a2 s.1 s.2.1 s.2.2) (a4, a6, z)
theorem ab_X1_rectangleOf_12 {K : Nat × (Nat → Int32)} {x : Nat} {Q : tq_O → tq_S → Prop} {B12 : Int64 → Int32 → tq_S → Prop} {a1 : Int32} {a2 : Int64} {a4 : Int64} {a6 : Int32} {z : tq_S} (hB12 : ∀ (b4 : Int64) (b6 : Int32) (z : tq_S), B12 b4 b6 z → tq_T K 0 x mm_X1_rectangleOf 12 [.null, .int a1, .long a2, .null, .long b4, .null, .int b6] [] z Q) (h : wb_X1_rectangleOf_12 B12 Q a1 a2 a4 a6 z) : tq_T K 0 x mm_X1_rectangleOf 12 [.null, .int a1, .long a2, .null, .long a4, .null, .int a6] [] z Q := by
  unfold wb_X1_rectangleOf_12 at h
  refine tq_s_iload (i := 6) (by decide +kernel) rfl ?_
  refine tq_s_iload_n (kk := 1) (by decide +kernel) rfl ?_
  refine tq_icmp_ge (off := 21) (tgt := 36) (by decide +kernel) (by decide +kernel) (fun hc => ?_) (fun hc => ?_)
  · replace h := h.1 hc
    refine tq_s_lload (i := 4) (by decide +kernel) rfl ?_
    exact tq_ret_l (by decide +kernel) rfl h
  · replace h := h.2 hc
    refine tq_s_lload (i := 4) (by decide +kernel) rfl ?_
    refine tq_s_lload_n (kk := 2) (by decide +kernel) rfl ?_
    refine tq_k_bi (n := 8) (v := (8 : Int32)) (by decide +kernel) kb_8 ?_
    refine tq_s_iload (i := 6) (by decide +kernel) rfl ?_
    refine tq_s_imul (by decide +kernel) ?_
    refine tq_s_lshl (by decide +kernel) ?_
    refine tq_s_lor (by decide +kernel) ?_
    refine tq_g_lstore (i := 4) (fun v101 => [.null, .int a1, .long a2, .null, .long v101, .null, .int a6]) (by decide +kernel) (by decide) (fun _ => rfl) (fun v101 ev101 => ?_)
    replace h := h v101 ev101
    refine tq_g_iinc (i := 6) (fun v102 => [.null, .int a1, .long a2, .null, .long v101, .null, .int v102]) (by decide +kernel) rfl (1 : Int32) kc_1 (fun _ => rfl) (fun v102 ev102 => ?_)
    replace h := h v102 ev102
    refine tq_s_goto (off := -21) (tgt := 12) (by decide +kernel) (by decide +kernel) ?_
    exact hB12 _ _ _ h
theorem ac_X1_rectangleOf_12 {K : Nat × (Nat → Int32)} {x : Nat} {Q : tq_O → tq_S → Prop} {a1 : Int32} {a2 : Int64} {a4 : Int64} {a6 : Int32} {z : tq_S} (h : wc_X1_rectangleOf_12 Q a1 a2 a4 a6 z) : tq_T K 0 x mm_X1_rectangleOf 12 [.null, .int a1, .long a2, .null, .long a4, .null, .int a6] [] z Q :=
  tq_lp_T (σ := Int64 × Int32 × tq_S) (G := fun s => tq_T K 0 x mm_X1_rectangleOf 12 [.null, .int a1, .long a2, .null, .long s.1, .null, .int s.2.1] [] s.2.2 Q) (fun B hB s h => ab_X1_rectangleOf_12 (fun b4 b6 z h => hB (b4, b6, z) h) h) h
def wm_X1_rectangleOf (a0 : Int32) (a1 : Int32) (z : tq_S) (Q : tq_O → tq_S → Prop) : Prop := ∀ v1 : Int64, v1 = (((1 : Int64) <<< ((Int32.toInt64 a0) &&& 63)) - (1 : Int64)) → wc_X1_rectangleOf_12 Q a1 v1 (0 : Int64) (0 : Int32) z
theorem am_X1_rectangleOf {K : Nat × (Nat → Int32)} {x : Nat} {z : tq_S} {Q : tq_O → tq_S → Prop} {a0 : Int32} {a1 : Int32} (h : wm_X1_rectangleOf a0 a1 z Q) : tq_M K 0 x mm_X1_rectangleOf [.int a0, .int a1] z Q := by
  unfold wm_X1_rectangleOf at h
  refine tq_enter (L := [.int a0, .int a1, .null, .null, .null, .null, .null]) mf_X1_rectangleOf.1 rfl rfl (by decide) ?_
  refine tq_k_lc (n := 1) (v := (1 : Int64)) (by decide +kernel) (by decide +kernel) ?_
  refine tq_s_iload_n (kk := 0) (by decide +kernel) rfl ?_
  refine tq_s_lshl (by decide +kernel) ?_
  refine tq_k_lc (n := 1) (v := (1 : Int64)) (by decide +kernel) (by decide +kernel) ?_
  refine tq_s_lsub (by decide +kernel) ?_
  refine tq_g_lstore_n (kk := 2) (fun v1 => [.int a0, .int a1, .long v1, .null, .null, .null, .null]) (by decide +kernel) (by decide) (fun _ => rfl) (fun v1 ev1 => ?_)
  replace h := h v1 ev1
  refine tq_k_lc (n := 0) (v := (0 : Int64)) (by decide +kernel) (by decide +kernel) ?_
  refine tq_s_lstore (i := 4) (L9 := [.int a0, .int a1, .long v1, .null, .long (0 : Int64), .null, .null]) (by decide +kernel) (by decide) rfl ?_
  refine tq_k_ic (n := 0) (v := (0 : Int32)) (by decide +kernel) kc_0 ?_
  refine tq_s_istore (i := 6) (L9 := [.int a0, .int a1, .long v1, .null, .long (0 : Int64), .null, .int (0 : Int32)]) (by decide +kernel) (by decide) rfl ?_
  exact tq_to (tq_ld1 (tq_lk1 (tq_lk1 (tq_lk1 (tq_lk1 (tq_lk1 (tq_lk1 tq_l0))))))) (ac_X1_rectangleOf_12 h)
def wm_X1_tell (a1 : Int32) (a2 : Int32) (a3 : Int64) (z : tq_S) (Q : tq_O → tq_S → Prop) : Prop := ∀ z1 : tq_S, z1 = tq_sfi z 64 a1 → ∀ z2 : tq_S, z2 = tq_sfi z1 65 a2 → ∀ z3 : tq_S, z3 = tq_sfl z2 67 a3 → ∀ z4 : tq_S, z4 = tq_sfi z3 66 (0 : Int32) → ∀ z5 : tq_S, z5 = tq_sfi z4 68 ((tq_fi z4 68) + (1 : Int32)) → Q (.inl none) z5
theorem am_X1_tell {K : Nat × (Nat → Int32)} {x : Nat} {z : tq_S} {Q : tq_O → tq_S → Prop} {a1 : Int32} {a2 : Int32} {a3 : Int64} (h : wm_X1_tell a1 a2 a3 z Q) : tq_M K 0 x mm_X1_tell [.ref 1, .int a1, .int a2, .long a3] z Q := by
  unfold wm_X1_tell at h
  refine tq_enter (L := [.ref 1, .int a1, .int a2, .long a3, .null]) mf_X1_tell.1 rfl rfl (by decide) ?_
  refine tq_s_aload_n (kk := 0) (by decide +kernel) rfl ?_
  refine tq_s_iload_n (kk := 1) (by decide +kernel) rfl ?_
  refine fp_1_7_1 rfl (by decide +kernel) (fun z1 ez1 => ?_)
  replace h := h z1 ez1
  refine tq_s_aload_n (kk := 0) (by decide +kernel) rfl ?_
  refine tq_s_iload_n (kk := 2) (by decide +kernel) rfl ?_
  refine fp_1_13_1 rfl (by decide +kernel) (fun z2 ez2 => ?_)
  replace h := h z2 ez2
  refine tq_s_aload_n (kk := 0) (by decide +kernel) rfl ?_
  refine tq_s_lload_n (kk := 3) (by decide +kernel) rfl ?_
  refine fp_1_20_1 rfl (by decide +kernel) (fun z3 ez3 => ?_)
  replace h := h z3 ez3
  refine tq_s_aload_n (kk := 0) (by decide +kernel) rfl ?_
  refine tq_k_ic (n := 0) (v := (0 : Int32)) (by decide +kernel) kc_0 ?_
  refine fp_1_16_1 rfl (by decide +kernel) ⟨by decide +kernel, by decide +kernel⟩ (fun z4 ez4 => ?_)
  replace h := h z4 ez4
  refine tq_s_aload_n (kk := 0) (by decide +kernel) rfl ?_
  refine tq_s_dup (by decide +kernel) rfl ?_
  refine fg_1_24_1 rfl (by decide +kernel) ?_
  refine tq_k_ic (n := 1) (v := (1 : Int32)) (by decide +kernel) kc_1 ?_
  refine tq_s_iadd (by decide +kernel) ?_
  refine fp_1_24_1 rfl (by decide +kernel) (fun z5 ez5 => ?_)
  replace h := h z5 ez5
  exact tq_ret_v (by decide +kernel) rfl h
def wm_J13_bitCount_95d88 (a0 : Int64) (z : tq_S) (Q : tq_O → tq_S → Prop) : Prop := ∀ v1 : Int64, v1 = (a0 - (((Int64.toUInt64 a0) >>> ((Int32.toInt64 (1 : Int32)).toUInt64 &&& Int64.toUInt64 63)).toInt64 &&& (6148914691236517205 : Int64))) → ∀ v2 : Int64, v2 = ((v1 &&& (3689348814741910323 : Int64)) + (((Int64.toUInt64 v1) >>> ((Int32.toInt64 (2 : Int32)).toUInt64 &&& Int64.toUInt64 63)).toInt64 &&& (3689348814741910323 : Int64))) → ∀ v3 : Int64, v3 = ((v2 + ((Int64.toUInt64 v2) >>> ((Int32.toInt64 (4 : Int32)).toUInt64 &&& Int64.toUInt64 63)).toInt64) &&& (1085102592571150095 : Int64)) → ∀ v4 : Int64, v4 = (v3 + ((Int64.toUInt64 v3) >>> ((Int32.toInt64 (8 : Int32)).toUInt64 &&& Int64.toUInt64 63)).toInt64) → ∀ v5 : Int64, v5 = (v4 + ((Int64.toUInt64 v4) >>> ((Int32.toInt64 (16 : Int32)).toUInt64 &&& Int64.toUInt64 63)).toInt64) → ∀ v6 : Int64, v6 = (v5 + ((Int64.toUInt64 v5) >>> ((Int32.toInt64 (32 : Int32)).toUInt64 &&& Int64.toUInt64 63)).toInt64) → Q (.inl (some (.int ((Int64.toInt32 v6) &&& (127 : Int32))))) z
theorem am_J13_bitCount_95d88 {K : Nat × (Nat → Int32)} {x : Nat} {z : tq_S} {Q : tq_O → tq_S → Prop} {a0 : Int64} (h : wm_J13_bitCount_95d88 a0 z Q) : tq_M K 0 x mm_J13_bitCount_95d88 [.long a0] z Q := by
  unfold wm_J13_bitCount_95d88 at h
  refine tq_enter (L := [.long a0, .null]) mf_J13_bitCount_95d88.1 rfl rfl (by decide) ?_
  refine tq_s_lload_n (kk := 0) (by decide +kernel) rfl ?_
  refine tq_s_lload_n (kk := 0) (by decide +kernel) rfl ?_
  refine tq_k_ic (n := 1) (v := (1 : Int32)) (by decide +kernel) kc_1 ?_
  refine tq_s_lushr (by decide +kernel) ?_
  refine tq_s_ldc2 (v := (6148914691236517205 : Int64)) (by decide +kernel) (by decide +kernel) ?_
  refine tq_s_land (by decide +kernel) ?_
  refine tq_s_lsub (by decide +kernel) ?_
  refine tq_g_lstore_n (kk := 0) (fun v1 => [.long v1, .null]) (by decide +kernel) (by decide) (fun _ => rfl) (fun v1 ev1 => ?_)
  replace h := h v1 ev1
  refine tq_s_lload_n (kk := 0) (by decide +kernel) rfl ?_
  refine tq_s_ldc2 (v := (3689348814741910323 : Int64)) (by decide +kernel) (by decide +kernel) ?_
  refine tq_s_land (by decide +kernel) ?_
  refine tq_s_lload_n (kk := 0) (by decide +kernel) rfl ?_
  refine tq_k_ic (n := 2) (v := (2 : Int32)) (by decide +kernel) kc_2 ?_
  refine tq_s_lushr (by decide +kernel) ?_
  refine tq_s_ldc2 (v := (3689348814741910323 : Int64)) (by decide +kernel) (by decide +kernel) ?_
  refine tq_s_land (by decide +kernel) ?_
  refine tq_s_ladd (by decide +kernel) ?_
  refine tq_g_lstore_n (kk := 0) (fun v2 => [.long v2, .null]) (by decide +kernel) (by decide) (fun _ => rfl) (fun v2 ev2 => ?_)
  replace h := h v2 ev2
  refine tq_s_lload_n (kk := 0) (by decide +kernel) rfl ?_
  refine tq_s_lload_n (kk := 0) (by decide +kernel) rfl ?_
  refine tq_k_ic (n := 4) (v := (4 : Int32)) (by decide +kernel) kc_4 ?_
  refine tq_s_lushr (by decide +kernel) ?_
  refine tq_s_ladd (by decide +kernel) ?_
  refine tq_s_ldc2 (v := (1085102592571150095 : Int64)) (by decide +kernel) (by decide +kernel) ?_
  refine tq_s_land (by decide +kernel) ?_
  refine tq_g_lstore_n (kk := 0) (fun v3 => [.long v3, .null]) (by decide +kernel) (by decide) (fun _ => rfl) (fun v3 ev3 => ?_)
  replace h := h v3 ev3
  refine tq_s_lload_n (kk := 0) (by decide +kernel) rfl ?_
  refine tq_s_lload_n (kk := 0) (by decide +kernel) rfl ?_
  refine tq_k_bi (n := 8) (v := (8 : Int32)) (by decide +kernel) kb_8 ?_
  refine tq_s_lushr (by decide +kernel) ?_
  refine tq_s_ladd (by decide +kernel) ?_
  refine tq_g_lstore_n (kk := 0) (fun v4 => [.long v4, .null]) (by decide +kernel) (by decide) (fun _ => rfl) (fun v4 ev4 => ?_)
  replace h := h v4 ev4
  refine tq_s_lload_n (kk := 0) (by decide +kernel) rfl ?_
  refine tq_s_lload_n (kk := 0) (by decide +kernel) rfl ?_
  refine tq_k_bi (n := 16) (v := (16 : Int32)) (by decide +kernel) kb_16 ?_
  refine tq_s_lushr (by decide +kernel) ?_
  refine tq_s_ladd (by decide +kernel) ?_
  refine tq_g_lstore_n (kk := 0) (fun v5 => [.long v5, .null]) (by decide +kernel) (by decide) (fun _ => rfl) (fun v5 ev5 => ?_)
  replace h := h v5 ev5
  refine tq_s_lload_n (kk := 0) (by decide +kernel) rfl ?_
  refine tq_s_lload_n (kk := 0) (by decide +kernel) rfl ?_
  refine tq_k_bi (n := 32) (v := (32 : Int32)) (by decide +kernel) kb_32 ?_
  refine tq_s_lushr (by decide +kernel) ?_
  refine tq_s_ladd (by decide +kernel) ?_
  refine tq_g_lstore_n (kk := 0) (fun v6 => [.long v6, .null]) (by decide +kernel) (by decide) (fun _ => rfl) (fun v6 ev6 => ?_)
  replace h := h v6 ev6
  refine tq_s_lload_n (kk := 0) (by decide +kernel) rfl ?_
  refine tq_s_l2i (by decide +kernel) ?_
  refine tq_k_bi (n := 127) (v := (127 : Int32)) (by decide +kernel) kb_127 ?_
  refine tq_s_iand (by decide +kernel) ?_
  exact tq_ret_i (by decide +kernel) rfl h
def wm_X1_size  (z : tq_S) (Q : tq_O → tq_S → Prop) : Prop := wm_J13_bitCount_95d88 (tq_fl z 67) z (tq_wi fun r2 z1 => Q (.inl (some (.int r2))) z1)
theorem am_X1_size {K : Nat × (Nat → Int32)} {x : Nat} {z : tq_S} {Q : tq_O → tq_S → Prop}  (h : wm_X1_size z Q) : tq_M K 1 x mm_X1_size [.ref 1] z Q := by
  unfold wm_X1_size at h
  refine tq_enter (L := [.ref 1]) mf_X1_size.1 rfl rfl (by decide) ?_
  refine tq_s_aload_n (kk := 0) (by decide +kernel) rfl ?_
  refine fg_1_20_1 rfl (by decide +kernel) ?_
  refine tq_callS (as := [.long (tq_fl z 67)]) (st := []) (d1 := 0) (x1 := 0) (x2 := x) (by decide +kernel) ln_1_41 mf_J13_bitCount_95d88 rfl (by decide) np_J13_bitCount_95d88 rfl (Nat.le_of_ble_eq_true rfl) (by decide) (Nat.zero_add _).symm (tq_M_mono (am_J13_bitCount_95d88 h) ?_)
  refine tq_wi_e (fun r2 z1 h => ?_)
  exact tq_ret_i (by decide +kernel) rfl h
def wm_X1_isForm (a0 : Int32) (a1 : Int32) (z : tq_S) (Q : tq_O → tq_S → Prop) : Prop := ((¬ a0 = (97 : Int32) → ((¬ a0 = (115 : Int32) → ((¬ a0 = (111 : Int32) → ((¬ a0 = (99 : Int32) → Q (.inl (some (.int (0 : Int32)))) z) ∧ (a0 = (99 : Int32) → wm_X11_isFrom (2 : Int32) a1 (8 : Int32) z (tq_wi fun r2 z1 => ((r2 = 0 → Q (.inl (some (.int (0 : Int32)))) z1) ∧ (¬ r2 = 0 → Q (.inl (some (.int (1 : Int32)))) z1)))))) ∧ (a0 = (111 : Int32) → wm_X11_isFrom (3 : Int32) a1 (8 : Int32) z (tq_wi fun r4 z3 => tq_nz r4 ∧ Q (.inl (some (.int r4))) z3)))) ∧ (a0 = (115 : Int32) → wm_X11_isFrom (1 : Int32) a1 (8 : Int32) z (tq_wi fun r6 z5 => tq_nz r6 ∧ Q (.inl (some (.int r6))) z5)))) ∧ (a0 = (97 : Int32) → wm_X11_isFrom (1 : Int32) a1 (4 : Int32) z (tq_wi fun r8 z7 => tq_nz r8 ∧ Q (.inl (some (.int r8))) z7)))
theorem am_X1_isForm {K : Nat × (Nat → Int32)} {x : Nat} {z : tq_S} {Q : tq_O → tq_S → Prop} {a0 : Int32} {a1 : Int32} (h : wm_X1_isForm a0 a1 z Q) : tq_M K 1 x mm_X1_isForm [.int a0, .int a1] z Q := by
  unfold wm_X1_isForm at h
  refine tq_enter (L := [.int a0, .int a1]) mf_X1_isForm.1 rfl rfl (by decide) ?_
  refine tq_s_iload_n (kk := 0) (by decide +kernel) rfl ?_
  refine tq_k_bi (n := 97) (v := (97 : Int32)) (by decide +kernel) kb_97 ?_
  refine tq_icmp_ne (off := 10) (tgt := 13) (by decide +kernel) (by decide +kernel) (fun hc => ?_) (fun hc => ?_)
  · replace h := h.1 hc
    refine tq_s_iload_n (kk := 0) (by decide +kernel) rfl ?_
    refine tq_k_bi (n := 115) (v := (115 : Int32)) (by decide +kernel) kb_115 ?_
    refine tq_icmp_ne (off := 11) (tgt := 27) (by decide +kernel) (by decide +kernel) (fun hc => ?_) (fun hc => ?_)
    · replace h := h.1 hc
      refine tq_s_iload_n (kk := 0) (by decide +kernel) rfl ?_
      refine tq_k_bi (n := 111) (v := (111 : Int32)) (by decide +kernel) kb_111 ?_
      refine tq_icmp_ne (off := 11) (tgt := 41) (by decide +kernel) (by decide +kernel) (fun hc => ?_) (fun hc => ?_)
      · replace h := h.1 hc
        refine tq_s_iload_n (kk := 0) (by decide +kernel) rfl ?_
        refine tq_k_bi (n := 99) (v := (99 : Int32)) (by decide +kernel) kb_99 ?_
        refine tq_icmp_ne (off := 17) (tgt := 61) (by decide +kernel) (by decide +kernel) (fun hc => ?_) (fun hc => ?_)
        · replace h := h.1 hc
          refine tq_k_ic (n := 0) (v := (0 : Int32)) (by decide +kernel) kc_0 ?_
          exact tq_ret_z (ty := .boolean) (by decide +kernel) (by decide +kernel) rfl h
        · replace h := h.2 hc
          refine tq_k_ic (n := 2) (v := (2 : Int32)) (by decide +kernel) kc_2 ?_
          refine tq_s_iload_n (kk := 1) (by decide +kernel) rfl ?_
          refine tq_k_bi (n := 8) (v := (8 : Int32)) (by decide +kernel) kb_8 ?_
          refine tq_callSN (as := [.int (2 : Int32), .int a1, .int (8 : Int32)]) (st := []) (d1 := 0) (x1 := 0) (x2 := x) (by decide +kernel) ln_1_27 mf_X11_isFrom rfl (by decide) np_X11_isFrom rfl (Nat.le_of_ble_eq_true rfl) (by decide) (Nat.zero_add _).symm (tq_M_mono (am_X11_isFrom h) ?_)
          refine tq_wi_e (fun r2 z1 h => ?_)
          refine tq_if_eq (off := 7) (tgt := 61) (by decide +kernel) (by decide +kernel) (fun hc => ?_) (fun hc => ?_)
          · replace h := h.1 hc
            refine tq_k_ic (n := 0) (v := (0 : Int32)) (by decide +kernel) kc_0 ?_
            exact tq_ret_z (ty := .boolean) (by decide +kernel) (by decide +kernel) rfl h
          · replace h := h.2 hc
            refine tq_k_ic (n := 1) (v := (1 : Int32)) (by decide +kernel) kc_1 ?_
            refine tq_s_goto (off := 4) (tgt := 62) (by decide +kernel) (by decide +kernel) ?_
            exact tq_ret_z (ty := .boolean) (by decide +kernel) (by decide +kernel) rfl h
      · replace h := h.2 hc
        refine tq_k_ic (n := 3) (v := (3 : Int32)) (by decide +kernel) kc_3 ?_
        refine tq_s_iload_n (kk := 1) (by decide +kernel) rfl ?_
        refine tq_k_bi (n := 8) (v := (8 : Int32)) (by decide +kernel) kb_8 ?_
        refine tq_callSN (as := [.int (3 : Int32), .int a1, .int (8 : Int32)]) (st := []) (d1 := 0) (x1 := 0) (x2 := x) (by decide +kernel) ln_1_27 mf_X11_isFrom rfl (by decide) np_X11_isFrom rfl (Nat.le_of_ble_eq_true rfl) (by decide) (Nat.zero_add _).symm (tq_M_mono (am_X11_isFrom h) ?_)
        refine tq_wi_e (fun r4 z3 h => ?_)
        exact tq_ret_z (ty := .boolean) (by decide +kernel) (tq_nz_f h.1).1 rfl h.2
    · replace h := h.2 hc
      refine tq_k_ic (n := 1) (v := (1 : Int32)) (by decide +kernel) kc_1 ?_
      refine tq_s_iload_n (kk := 1) (by decide +kernel) rfl ?_
      refine tq_k_bi (n := 8) (v := (8 : Int32)) (by decide +kernel) kb_8 ?_
      refine tq_callSN (as := [.int (1 : Int32), .int a1, .int (8 : Int32)]) (st := []) (d1 := 0) (x1 := 0) (x2 := x) (by decide +kernel) ln_1_27 mf_X11_isFrom rfl (by decide) np_X11_isFrom rfl (Nat.le_of_ble_eq_true rfl) (by decide) (Nat.zero_add _).symm (tq_M_mono (am_X11_isFrom h) ?_)
      refine tq_wi_e (fun r6 z5 h => ?_)
      exact tq_ret_z (ty := .boolean) (by decide +kernel) (tq_nz_f h.1).1 rfl h.2
  · replace h := h.2 hc
    refine tq_k_ic (n := 1) (v := (1 : Int32)) (by decide +kernel) kc_1 ?_
    refine tq_s_iload_n (kk := 1) (by decide +kernel) rfl ?_
    refine tq_k_ic (n := 4) (v := (4 : Int32)) (by decide +kernel) kc_4 ?_
    refine tq_callSN (as := [.int (1 : Int32), .int a1, .int (4 : Int32)]) (st := []) (d1 := 0) (x1 := 0) (x2 := x) (by decide +kernel) ln_1_27 mf_X11_isFrom rfl (by decide) np_X11_isFrom rfl (Nat.le_of_ble_eq_true rfl) (by decide) (Nat.zero_add _).symm (tq_M_mono (am_X11_isFrom h) ?_)
    refine tq_wi_e (fun r8 z7 h => ?_)
    exact tq_ret_z (ty := .boolean) (by decide +kernel) (tq_nz_f h.1).1 rfl h.2
def wc_X1_isInForm_22 (Q : tq_O → tq_S → Prop) (a1 : Int32) (a2 : Int32) (s0 : Int32) (z : tq_S) : Prop := wm_X11_isFrom s0 a2 ((((2 : Int32) * a1) - (1 : Int32)) - s0) z (tq_wi fun r102 z101 => tq_nz r102 ∧ Q (.inl (some (.int r102))) z101)
theorem ac_X1_isInForm_22 {K : Nat × (Nat → Int32)} {x : Nat} {Q : tq_O → tq_S → Prop} {a1 : Int32} {a2 : Int32} {s0 : Int32} {z : tq_S} (h : wc_X1_isInForm_22 Q a1 a2 s0 z) : tq_T K 1 x mm_X1_isInForm 22 [.null, .int a1, .int a2, .null, .null] [.int s0] z Q := by
  unfold wc_X1_isInForm_22 at h
  refine tq_s_istore (i := 4) (L9 := [.null, .int a1, .int a2, .null, .int s0]) (by decide +kernel) (by decide) rfl ?_
  refine tq_s_iload (i := 4) (by decide +kernel) rfl ?_
  refine tq_s_iload_n (kk := 2) (by decide +kernel) rfl ?_
  refine tq_k_ic (n := 2) (v := (2 : Int32)) (by decide +kernel) kc_2 ?_
  refine tq_s_iload_n (kk := 1) (by decide +kernel) rfl ?_
  refine tq_s_imul (by decide +kernel) ?_
  refine tq_k_ic (n := 1) (v := (1 : Int32)) (by decide +kernel) kc_1 ?_
  refine tq_s_isub (by decide +kernel) ?_
  refine tq_s_iload (i := 4) (by decide +kernel) rfl ?_
  refine tq_s_isub (by decide +kernel) ?_
  refine tq_callSN (as := [.int s0, .int a2, .int ((((2 : Int32) * a1) - (1 : Int32)) - s0)]) (st := []) (d1 := 0) (x1 := 0) (x2 := x) (by decide +kernel) ln_1_27 mf_X11_isFrom rfl (by decide) np_X11_isFrom rfl (Nat.le_of_ble_eq_true rfl) (by decide) (Nat.zero_add _).symm (tq_M_mono (am_X11_isFrom h) ?_)
  refine tq_wi_e (fun r102 z101 h => ?_)
  exact tq_ret_z (ty := .boolean) (by decide +kernel) (tq_nz_f h.1).1 rfl h.2
def wc_X1_isInForm_98 (Q : tq_O → tq_S → Prop) (a1 : Int32) (a2 : Int32) (a3 : Int32) (z : tq_S) : Prop := ((¬ a2 = (a1 - (1 : Int32)) → Q (.inl (some (.int (1 : Int32)))) z) ∧ (a2 = (a1 - (1 : Int32)) → ((a3 = (a1 - (1 : Int32)) → Q (.inl (some (.int (0 : Int32)))) z) ∧ (¬ a3 = (a1 - (1 : Int32)) → Q (.inl (some (.int (1 : Int32)))) z))))
theorem ac_X1_isInForm_98 {K : Nat × (Nat → Int32)} {x : Nat} {Q : tq_O → tq_S → Prop} {a1 : Int32} {a2 : Int32} {a3 : Int32} {z : tq_S} (h : wc_X1_isInForm_98 Q a1 a2 a3 z) : tq_T K 1 x mm_X1_isInForm 98 [.null, .int a1, .int a2, .int a3, .null] [] z Q := by
  unfold wc_X1_isInForm_98 at h
  refine tq_s_iload_n (kk := 2) (by decide +kernel) rfl ?_
  refine tq_s_iload_n (kk := 1) (by decide +kernel) rfl ?_
  refine tq_k_ic (n := 1) (v := (1 : Int32)) (by decide +kernel) kc_1 ?_
  refine tq_s_isub (by decide +kernel) ?_
  refine tq_icmp_ne (off := 10) (tgt := 112) (by decide +kernel) (by decide +kernel) (fun hc => ?_) (fun hc => ?_)
  · replace h := h.1 hc
    refine tq_k_ic (n := 1) (v := (1 : Int32)) (by decide +kernel) kc_1 ?_
    refine tq_s_goto (off := 4) (tgt := 117) (by decide +kernel) (by decide +kernel) ?_
    exact tq_ret_z (ty := .boolean) (by decide +kernel) (by decide +kernel) rfl h
  · replace h := h.2 hc
    refine tq_s_iload_n (kk := 3) (by decide +kernel) rfl ?_
    refine tq_s_iload_n (kk := 1) (by decide +kernel) rfl ?_
    refine tq_k_ic (n := 1) (v := (1 : Int32)) (by decide +kernel) kc_1 ?_
    refine tq_s_isub (by decide +kernel) ?_
    refine tq_icmp_eq (off := 7) (tgt := 116) (by decide +kernel) (by decide +kernel) (fun hc => ?_) (fun hc => ?_)
    · replace h := h.1 hc
      refine tq_k_ic (n := 0) (v := (0 : Int32)) (by decide +kernel) kc_0 ?_
      exact tq_ret_z (ty := .boolean) (by decide +kernel) (by decide +kernel) rfl h
    · replace h := h.2 hc
      refine tq_k_ic (n := 1) (v := (1 : Int32)) (by decide +kernel) kc_1 ?_
      refine tq_s_goto (off := 4) (tgt := 117) (by decide +kernel) (by decide +kernel) ?_
      exact tq_ret_z (ty := .boolean) (by decide +kernel) (by decide +kernel) rfl h
def wm_X1_isInForm (a0 : Int32) (a1 : Int32) (a2 : Int32) (a3 : Int32) (z : tq_S) (Q : tq_O → tq_S → Prop) : Prop := ((¬ a0 = (97 : Int32) → ((¬ a0 = (115 : Int32) → ((¬ a0 = (111 : Int32) → ((¬ a2 = 0 → wc_X1_isInForm_98 Q a1 a2 a3 z) ∧ (a2 = 0 → ((a3 = 0 → Q (.inl (some (.int (0 : Int32)))) z) ∧ (¬ a3 = 0 → wc_X1_isInForm_98 Q a1 a2 a3 z))))) ∧ (a0 = (111 : Int32) → ((a2 = 0 → Q (.inl (some (.int (1 : Int32)))) z) ∧ (¬ a2 = 0 → ((a3 = 0 → Q (.inl (some (.int (1 : Int32)))) z) ∧ (¬ a3 = 0 → ((a2 = (a1 - (1 : Int32)) → Q (.inl (some (.int (1 : Int32)))) z) ∧ (¬ a2 = (a1 - (1 : Int32)) → ((¬ a3 = (a1 - (1 : Int32)) → Q (.inl (some (.int (0 : Int32)))) z) ∧ (a3 = (a1 - (1 : Int32)) → Q (.inl (some (.int (1 : Int32)))) z))))))))))) ∧ (a0 = (115 : Int32) → ((a3 < a2 → Q (.inl (some (.int (0 : Int32)))) z) ∧ (¬ a3 < a2 → Q (.inl (some (.int (1 : Int32)))) z))))) ∧ (a0 = (97 : Int32) → ((a1 ≤ a3 → wc_X1_isInForm_22 Q a1 a2 (a3 - a1) z) ∧ (¬ a1 ≤ a3 → wc_X1_isInForm_22 Q a1 a2 ((a1 - (1 : Int32)) - a3) z))))
theorem am_X1_isInForm {K : Nat × (Nat → Int32)} {x : Nat} {z : tq_S} {Q : tq_O → tq_S → Prop} {a0 : Int32} {a1 : Int32} {a2 : Int32} {a3 : Int32} (h : wm_X1_isInForm a0 a1 a2 a3 z Q) : tq_M K 1 x mm_X1_isInForm [.int a0, .int a1, .int a2, .int a3] z Q := by
  unfold wm_X1_isInForm at h
  refine tq_enter (L := [.int a0, .int a1, .int a2, .int a3, .null]) mf_X1_isInForm.1 rfl rfl (by decide) ?_
  refine tq_s_iload_n (kk := 0) (by decide +kernel) rfl ?_
  refine tq_k_bi (n := 97) (v := (97 : Int32)) (by decide +kernel) kb_97 ?_
  refine tq_icmp_ne (off := 36) (tgt := 39) (by decide +kernel) (by decide +kernel) (fun hc => ?_) (fun hc => ?_)
  · replace h := h.1 hc
    refine tq_s_iload_n (kk := 0) (by decide +kernel) rfl ?_
    refine tq_k_bi (n := 115) (v := (115 : Int32)) (by decide +kernel) kb_115 ?_
    refine tq_icmp_ne (off := 14) (tgt := 56) (by decide +kernel) (by decide +kernel) (fun hc => ?_) (fun hc => ?_)
    · replace h := h.1 hc
      refine tq_s_iload_n (kk := 0) (by decide +kernel) rfl ?_
      refine tq_k_bi (n := 111) (v := (111 : Int32)) (by decide +kernel) kb_111 ?_
      refine tq_icmp_ne (off := 31) (tgt := 90) (by decide +kernel) (by decide +kernel) (fun hc => ?_) (fun hc => ?_)
      · replace h := h.1 hc
        refine tq_s_iload_n (kk := 2) (by decide +kernel) rfl ?_
        refine tq_if_ne (off := 7) (tgt := 98) (by decide +kernel) (by decide +kernel) (fun hc => ?_) (fun hc => ?_)
        · replace h := h.1 hc
          exact tq_to (tq_ld1 (tq_lk1 (tq_lk1 (tq_lk1 (tq_lk1 tq_l0))))) (ac_X1_isInForm_98 h)
        · replace h := h.2 hc
          refine tq_s_iload_n (kk := 3) (by decide +kernel) rfl ?_
          refine tq_if_eq (off := 21) (tgt := 116) (by decide +kernel) (by decide +kernel) (fun hc => ?_) (fun hc => ?_)
          · replace h := h.1 hc
            refine tq_k_ic (n := 0) (v := (0 : Int32)) (by decide +kernel) kc_0 ?_
            exact tq_ret_z (ty := .boolean) (by decide +kernel) (by decide +kernel) rfl h
          · replace h := h.2 hc
            exact tq_to (tq_ld1 (tq_lk1 (tq_lk1 (tq_lk1 (tq_lk1 tq_l0))))) (ac_X1_isInForm_98 h)
      · replace h := h.2 hc
        refine tq_s_iload_n (kk := 2) (by decide +kernel) rfl ?_
        refine tq_if_eq (off := 21) (tgt := 84) (by decide +kernel) (by decide +kernel) (fun hc => ?_) (fun hc => ?_)
        · replace h := h.1 hc
          refine tq_k_ic (n := 1) (v := (1 : Int32)) (by decide +kernel) kc_1 ?_
          refine tq_s_goto (off := 4) (tgt := 89) (by decide +kernel) (by decide +kernel) ?_
          exact tq_ret_z (ty := .boolean) (by decide +kernel) (by decide +kernel) rfl h
        · replace h := h.2 hc
          refine tq_s_iload_n (kk := 3) (by decide +kernel) rfl ?_
          refine tq_if_eq (off := 17) (tgt := 84) (by decide +kernel) (by decide +kernel) (fun hc => ?_) (fun hc => ?_)
          · replace h := h.1 hc
            refine tq_k_ic (n := 1) (v := (1 : Int32)) (by decide +kernel) kc_1 ?_
            refine tq_s_goto (off := 4) (tgt := 89) (by decide +kernel) (by decide +kernel) ?_
            exact tq_ret_z (ty := .boolean) (by decide +kernel) (by decide +kernel) rfl h
          · replace h := h.2 hc
            refine tq_s_iload_n (kk := 2) (by decide +kernel) rfl ?_
            refine tq_s_iload_n (kk := 1) (by decide +kernel) rfl ?_
            refine tq_k_ic (n := 1) (v := (1 : Int32)) (by decide +kernel) kc_1 ?_
            refine tq_s_isub (by decide +kernel) ?_
            refine tq_icmp_eq (off := 10) (tgt := 84) (by decide +kernel) (by decide +kernel) (fun hc => ?_) (fun hc => ?_)
            · replace h := h.1 hc
              refine tq_k_ic (n := 1) (v := (1 : Int32)) (by decide +kernel) kc_1 ?_
              refine tq_s_goto (off := 4) (tgt := 89) (by decide +kernel) (by decide +kernel) ?_
              exact tq_ret_z (ty := .boolean) (by decide +kernel) (by decide +kernel) rfl h
            · replace h := h.2 hc
              refine tq_s_iload_n (kk := 3) (by decide +kernel) rfl ?_
              refine tq_s_iload_n (kk := 1) (by decide +kernel) rfl ?_
              refine tq_k_ic (n := 1) (v := (1 : Int32)) (by decide +kernel) kc_1 ?_
              refine tq_s_isub (by decide +kernel) ?_
              refine tq_icmp_ne (off := 7) (tgt := 88) (by decide +kernel) (by decide +kernel) (fun hc => ?_) (fun hc => ?_)
              · replace h := h.1 hc
                refine tq_k_ic (n := 0) (v := (0 : Int32)) (by decide +kernel) kc_0 ?_
                exact tq_ret_z (ty := .boolean) (by decide +kernel) (by decide +kernel) rfl h
              · replace h := h.2 hc
                refine tq_k_ic (n := 1) (v := (1 : Int32)) (by decide +kernel) kc_1 ?_
                refine tq_s_goto (off := 4) (tgt := 89) (by decide +kernel) (by decide +kernel) ?_
                exact tq_ret_z (ty := .boolean) (by decide +kernel) (by decide +kernel) rfl h
    · replace h := h.2 hc
      refine tq_s_iload_n (kk := 2) (by decide +kernel) rfl ?_
      refine tq_s_iload_n (kk := 3) (by decide +kernel) rfl ?_
      refine tq_icmp_gt (off := 7) (tgt := 54) (by decide +kernel) (by decide +kernel) (fun hc => ?_) (fun hc => ?_)
      · replace h := h.1 hc
        refine tq_k_ic (n := 0) (v := (0 : Int32)) (by decide +kernel) kc_0 ?_
        exact tq_ret_z (ty := .boolean) (by decide +kernel) (by decide +kernel) rfl h
      · replace h := h.2 hc
        refine tq_k_ic (n := 1) (v := (1 : Int32)) (by decide +kernel) kc_1 ?_
        refine tq_s_goto (off := 4) (tgt := 55) (by decide +kernel) (by decide +kernel) ?_
        exact tq_ret_z (ty := .boolean) (by decide +kernel) (by decide +kernel) rfl h
  · replace h := h.2 hc
    refine tq_s_iload_n (kk := 3) (by decide +kernel) rfl ?_
    refine tq_s_iload_n (kk := 1) (by decide +kernel) rfl ?_
    refine tq_icmp_ge (off := 11) (tgt := 19) (by decide +kernel) (by decide +kernel) (fun hc => ?_) (fun hc => ?_)
    · replace h := h.1 hc
      refine tq_s_iload_n (kk := 3) (by decide +kernel) rfl ?_
      refine tq_s_iload_n (kk := 1) (by decide +kernel) rfl ?_
      refine tq_s_isub (by decide +kernel) ?_
      exact tq_to (tq_ld1 (tq_lk1 (tq_lk1 (tq_ld1 (tq_lk1 tq_l0))))) (ac_X1_isInForm_22 h)
    · replace h := h.2 hc
      refine tq_s_iload_n (kk := 1) (by decide +kernel) rfl ?_
      refine tq_k_ic (n := 1) (v := (1 : Int32)) (by decide +kernel) kc_1 ?_
      refine tq_s_isub (by decide +kernel) ?_
      refine tq_s_iload_n (kk := 3) (by decide +kernel) rfl ?_
      refine tq_s_isub (by decide +kernel) ?_
      refine tq_s_goto (off := 6) (tgt := 22) (by decide +kernel) (by decide +kernel) ?_
      exact tq_to (tq_ld1 (tq_lk1 (tq_lk1 (tq_ld1 (tq_lk1 tq_l0))))) (ac_X1_isInForm_22 h)
def wm_X1_bit (a0 : Int32) (a1 : Int32) (z : tq_S) (Q : tq_O → tq_S → Prop) : Prop := Q (.inl (some (.long ((1 : Int64) <<< ((Int32.toInt64 (((8 : Int32) * a1) + a0)) &&& 63))))) z
theorem am_X1_bit {K : Nat × (Nat → Int32)} {x : Nat} {z : tq_S} {Q : tq_O → tq_S → Prop} {a0 : Int32} {a1 : Int32} (h : wm_X1_bit a0 a1 z Q) : tq_M K 0 x mm_X1_bit [.int a0, .int a1] z Q := by
  unfold wm_X1_bit at h
  refine tq_enter (L := [.int a0, .int a1]) mf_X1_bit.1 rfl rfl (by decide) ?_
  refine tq_k_lc (n := 1) (v := (1 : Int64)) (by decide +kernel) (by decide +kernel) ?_
  refine tq_k_bi (n := 8) (v := (8 : Int32)) (by decide +kernel) kb_8 ?_
  refine tq_s_iload_n (kk := 1) (by decide +kernel) rfl ?_
  refine tq_s_imul (by decide +kernel) ?_
  refine tq_s_iload_n (kk := 0) (by decide +kernel) rfl ?_
  refine tq_s_iadd (by decide +kernel) ?_
  refine tq_s_lshl (by decide +kernel) ?_
  exact tq_ret_l (by decide +kernel) rfl h
def wc_X1_formCells_70 (B19 : Int64 → Int32 → tq_S → Prop) (B35 : Int64 → Int32 → tq_S → Prop) (Q : tq_O → tq_S → Prop) (a0 : Int32) (a1 : Int32) (a2 : Int32) (a3 : Int64) (a5 : Int32) (a6 : Int32) (z : tq_S) : Prop := ∀ v101 : Int32, v101 = a6 + (1 : Int32) → B35 a3 v101 z
theorem ac_X1_formCells_70 {K : Nat × (Nat → Int32)} {x : Nat} {Q : tq_O → tq_S → Prop} {B19 : Int64 → Int32 → tq_S → Prop} {B35 : Int64 → Int32 → tq_S → Prop} {a0 : Int32} {a1 : Int32} {a2 : Int32} {a3 : Int64} {a5 : Int32} {a6 : Int32} {z : tq_S} (hB19 : ∀ (b3 : Int64) (b5 : Int32) (z : tq_S), B19 b3 b5 z → tq_T K 2 x mm_X1_formCells 19 [.int a0, .int a1, .int a2, .long b3, .null, .int b5, .null] [] z Q) (hB35 : ∀ (b3 : Int64) (b6 : Int32) (z : tq_S), B35 b3 b6 z → tq_T K 2 x mm_X1_formCells 35 [.int a0, .int a1, .int a2, .long b3, .null, .int a5, .int b6] [] z Q) (h : wc_X1_formCells_70 B19 B35 Q a0 a1 a2 a3 a5 a6 z) : tq_T K 2 x mm_X1_formCells 70 [.int a0, .int a1, .int a2, .long a3, .null, .int a5, .int a6] [] z Q := by
  unfold wc_X1_formCells_70 at h
  refine tq_g_iinc (i := 6) (fun v101 => [.int a0, .int a1, .int a2, .long a3, .null, .int a5, .int v101]) (by decide +kernel) rfl (1 : Int32) kc_1 (fun _ => rfl) (fun v101 ev101 => ?_)
  replace h := h v101 ev101
  refine tq_s_goto (off := -38) (tgt := 35) (by decide +kernel) (by decide +kernel) ?_
  exact hB35 _ _ _ h
def wc_X1_formCells_76 (B19 : Int64 → Int32 → tq_S → Prop) (Q : tq_O → tq_S → Prop) (a0 : Int32) (a1 : Int32) (a2 : Int32) (a3 : Int64) (a5 : Int32) (z : tq_S) : Prop := ∀ v101 : Int32, v101 = a5 + (1 : Int32) → B19 a3 v101 z
theorem ac_X1_formCells_76 {K : Nat × (Nat → Int32)} {x : Nat} {Q : tq_O → tq_S → Prop} {B19 : Int64 → Int32 → tq_S → Prop} {a0 : Int32} {a1 : Int32} {a2 : Int32} {a3 : Int64} {a5 : Int32} {z : tq_S} (hB19 : ∀ (b3 : Int64) (b5 : Int32) (z : tq_S), B19 b3 b5 z → tq_T K 2 x mm_X1_formCells 19 [.int a0, .int a1, .int a2, .long b3, .null, .int b5, .null] [] z Q) (h : wc_X1_formCells_76 B19 Q a0 a1 a2 a3 a5 z) : tq_T K 2 x mm_X1_formCells 76 [.int a0, .int a1, .int a2, .long a3, .null, .int a5, .null] [] z Q := by
  unfold wc_X1_formCells_76 at h
  refine tq_g_iinc (i := 5) (fun v101 => [.int a0, .int a1, .int a2, .long a3, .null, .int v101, .null]) (by decide +kernel) rfl (1 : Int32) kc_1 (fun _ => rfl) (fun v101 ev101 => ?_)
  replace h := h v101 ev101
  refine tq_s_goto (off := -60) (tgt := 19) (by decide +kernel) (by decide +kernel) ?_
  exact hB19 _ _ _ h
def wb_X1_formCells_35 (B19 : Int64 → Int32 → tq_S → Prop) (B35 : Int64 → Int32 → tq_S → Prop) (Q : tq_O → tq_S → Prop) (a0 : Int32) (a1 : Int32) (a2 : Int32) (a3 : Int64) (a5 : Int32) (a6 : Int32) (z : tq_S) : Prop := ((a2 ≤ a6 → wc_X1_formCells_76 B19 Q a0 a1 a2 a3 a5 z) ∧ (¬ a2 ≤ a6 → (((8 : Int32) ≤ a6 → wc_X1_formCells_76 B19 Q a0 a1 a2 a3 a5 z) ∧ (¬ (8 : Int32) ≤ a6 → wm_X1_isInForm a0 a1 a6 a5 z (tq_wi fun r102 z101 => ((r102 = 0 → wc_X1_formCells_70 B19 B35 Q a0 a1 a2 a3 a5 a6 z101) ∧ (¬ r102 = 0 → wm_X1_bit a6 a5 z101 (tq_wl fun r104 z103 => ∀ v105 : Int64, v105 = (a3 ||| r104) → wc_X1_formCells_70 B19 B35 Q a0 a1 a2 v105 a5 a6 z103))))))))
def wc_X1_formCells_35 (B19 : Int64 → Int32 → tq_S → Prop) (Q : tq_O → tq_S → Prop) (a0 : Int32) (a1 : Int32) (a2 : Int32) (a3 : Int64) (a5 : Int32) (a6 : Int32) (z : tq_S) : Prop := tq_lp (σ := Int64 × Int32 × tq_S) (fun B s => wb_X1_formCells_35 B19 (fun b3 b6 z => B (b3, b6, z)) Q a0 a1 a2 s.1 a5 s.2.1 s.2.2) (a3, a6, z)
theorem ab_X1_formCells_35 {K : Nat × (Nat → Int32)} {x : Nat} {Q : tq_O → tq_S → Prop} {B19 : Int64 → Int32 → tq_S → Prop} {B35 : Int64 → Int32 → tq_S → Prop} {a0 : Int32} {a1 : Int32} {a2 : Int32} {a3 : Int64} {a5 : Int32} {a6 : Int32} {z : tq_S} (hB19 : ∀ (b3 : Int64) (b5 : Int32) (z : tq_S), B19 b3 b5 z → tq_T K 2 x mm_X1_formCells 19 [.int a0, .int a1, .int a2, .long b3, .null, .int b5, .null] [] z Q) (hB35 : ∀ (b3 : Int64) (b6 : Int32) (z : tq_S), B35 b3 b6 z → tq_T K 2 x mm_X1_formCells 35 [.int a0, .int a1, .int a2, .long b3, .null, .int a5, .int b6] [] z Q) (h : wb_X1_formCells_35 B19 B35 Q a0 a1 a2 a3 a5 a6 z) : tq_T K 2 x mm_X1_formCells 35 [.int a0, .int a1, .int a2, .long a3, .null, .int a5, .int a6] [] z Q := by
  unfold wb_X1_formCells_35 at h
  refine tq_s_iload (i := 6) (by decide +kernel) rfl ?_
  refine tq_s_iload_n (kk := 2) (by decide +kernel) rfl ?_
  refine tq_icmp_ge (off := 38) (tgt := 76) (by decide +kernel) (by decide +kernel) (fun hc => ?_) (fun hc => ?_)
  · replace h := h.1 hc
    exact tq_to (tq_lk1 (tq_lk1 (tq_lk1 (tq_lk1 (tq_lk1 (tq_lk1 (tq_ld1 tq_l0))))))) (ac_X1_formCells_76 hB19 h)
  · replace h := h.2 hc
    refine tq_s_iload (i := 6) (by decide +kernel) rfl ?_
    refine tq_k_bi (n := 8) (v := (8 : Int32)) (by decide +kernel) kb_8 ?_
    refine tq_icmp_ge (off := 31) (tgt := 76) (by decide +kernel) (by decide +kernel) (fun hc => ?_) (fun hc => ?_)
    · replace h := h.1 hc
      exact tq_to (tq_lk1 (tq_lk1 (tq_lk1 (tq_lk1 (tq_lk1 (tq_lk1 (tq_ld1 tq_l0))))))) (ac_X1_formCells_76 hB19 h)
    · replace h := h.2 hc
      refine tq_s_iload_n (kk := 0) (by decide +kernel) rfl ?_
      refine tq_s_iload_n (kk := 1) (by decide +kernel) rfl ?_
      refine tq_s_iload (i := 6) (by decide +kernel) rfl ?_
      refine tq_s_iload (i := 5) (by decide +kernel) rfl ?_
      refine tq_callS (as := [.int a0, .int a1, .int a6, .int a5]) (st := []) (d1 := 1) (x1 := 0) (x2 := x) (by decide +kernel) ln_1_33 mf_X1_isInForm rfl (by decide) np_X1_isInForm rfl (Nat.le_of_ble_eq_true rfl) (by decide) (Nat.zero_add _).symm (tq_M_mono (am_X1_isInForm h) ?_)
      refine tq_wi_e (fun r102 z101 h => ?_)
      refine tq_if_eq (off := 13) (tgt := 70) (by decide +kernel) (by decide +kernel) (fun hc => ?_) (fun hc => ?_)
      · replace h := h.1 hc
        exact ac_X1_formCells_70 hB19 hB35 h
      · replace h := h.2 hc
        refine tq_s_lload_n (kk := 3) (by decide +kernel) rfl ?_
        refine tq_s_iload (i := 6) (by decide +kernel) rfl ?_
        refine tq_s_iload (i := 5) (by decide +kernel) rfl ?_
        refine tq_callS (as := [.int a6, .int a5]) (st := [.long a3]) (d1 := 0) (x1 := 0) (x2 := x) (by decide +kernel) ln_1_37 mf_X1_bit rfl (by decide) np_X1_bit rfl (Nat.le_of_ble_eq_true rfl) (by decide) (Nat.zero_add _).symm (tq_M_mono (am_X1_bit h) ?_)
        refine tq_wl_e (fun r104 z103 h => ?_)
        refine tq_s_lor (by decide +kernel) ?_
        refine tq_g_lstore_n (kk := 3) (fun v105 => [.int a0, .int a1, .int a2, .long v105, .null, .int a5, .int a6]) (by decide +kernel) (by decide) (fun _ => rfl) (fun v105 ev105 => ?_)
        replace h := h v105 ev105
        exact ac_X1_formCells_70 hB19 hB35 h
theorem ac_X1_formCells_35 {K : Nat × (Nat → Int32)} {x : Nat} {Q : tq_O → tq_S → Prop} {B19 : Int64 → Int32 → tq_S → Prop} {a0 : Int32} {a1 : Int32} {a2 : Int32} {a3 : Int64} {a5 : Int32} {a6 : Int32} {z : tq_S} (hB19 : ∀ (b3 : Int64) (b5 : Int32) (z : tq_S), B19 b3 b5 z → tq_T K 2 x mm_X1_formCells 19 [.int a0, .int a1, .int a2, .long b3, .null, .int b5, .null] [] z Q) (h : wc_X1_formCells_35 B19 Q a0 a1 a2 a3 a5 a6 z) : tq_T K 2 x mm_X1_formCells 35 [.int a0, .int a1, .int a2, .long a3, .null, .int a5, .int a6] [] z Q :=
  tq_lp_T (σ := Int64 × Int32 × tq_S) (G := fun s => tq_T K 2 x mm_X1_formCells 35 [.int a0, .int a1, .int a2, .long s.1, .null, .int a5, .int s.2.1] [] s.2.2 Q) (fun B hB s h => ab_X1_formCells_35 hB19 (fun b3 b6 z h => hB (b3, b6, z) h) h) h
def wb_X1_formCells_19 (B19 : Int64 → Int32 → tq_S → Prop) (Q : tq_O → tq_S → Prop) (a0 : Int32) (a1 : Int32) (a2 : Int32) (a3 : Int64) (a5 : Int32) (z : tq_S) : Prop := ((a2 ≤ a5 → Q (.inl (some (.long a3))) z) ∧ (¬ a2 ≤ a5 → (((8 : Int32) ≤ a5 → Q (.inl (some (.long a3))) z) ∧ (¬ (8 : Int32) ≤ a5 → wc_X1_formCells_35 B19 Q a0 a1 a2 a3 a5 (0 : Int32) z))))
def wc_X1_formCells_19 (Q : tq_O → tq_S → Prop) (a0 : Int32) (a1 : Int32) (a2 : Int32) (a3 : Int64) (a5 : Int32) (z : tq_S) : Prop := tq_lp (σ := Int64 × Int32 × tq_S) (fun B s => wb_X1_formCells_19 (fun b3 b5 z => B (b3, b5, z)) Q a0 a1 a2 s.1 s.2.1 s.2.2) (a3, a5, z)
theorem ab_X1_formCells_19 {K : Nat × (Nat → Int32)} {x : Nat} {Q : tq_O → tq_S → Prop} {B19 : Int64 → Int32 → tq_S → Prop} {a0 : Int32} {a1 : Int32} {a2 : Int32} {a3 : Int64} {a5 : Int32} {z : tq_S} (hB19 : ∀ (b3 : Int64) (b5 : Int32) (z : tq_S), B19 b3 b5 z → tq_T K 2 x mm_X1_formCells 19 [.int a0, .int a1, .int a2, .long b3, .null, .int b5, .null] [] z Q) (h : wb_X1_formCells_19 B19 Q a0 a1 a2 a3 a5 z) : tq_T K 2 x mm_X1_formCells 19 [.int a0, .int a1, .int a2, .long a3, .null, .int a5, .null] [] z Q := by
  unfold wb_X1_formCells_19 at h
  refine tq_s_iload (i := 5) (by decide +kernel) rfl ?_
  refine tq_s_iload_n (kk := 2) (by decide +kernel) rfl ?_
  refine tq_icmp_ge (off := 60) (tgt := 82) (by decide +kernel) (by decide +kernel) (fun hc => ?_) (fun hc => ?_)
  · replace h := h.1 hc
    refine tq_s_lload_n (kk := 3) (by decide +kernel) rfl ?_
    exact tq_ret_l (by decide +kernel) rfl h
  · replace h := h.2 hc
    refine tq_s_iload (i := 5) (by decide +kernel) rfl ?_
    refine tq_k_bi (n := 8) (v := (8 : Int32)) (by decide +kernel) kb_8 ?_
    refine tq_icmp_ge (off := 53) (tgt := 82) (by decide +kernel) (by decide +kernel) (fun hc => ?_) (fun hc => ?_)
    · replace h := h.1 hc
      refine tq_s_lload_n (kk := 3) (by decide +kernel) rfl ?_
      exact tq_ret_l (by decide +kernel) rfl h
    · replace h := h.2 hc
      refine tq_k_ic (n := 0) (v := (0 : Int32)) (by decide +kernel) kc_0 ?_
      refine tq_s_istore (i := 6) (L9 := [.int a0, .int a1, .int a2, .long a3, .null, .int a5, .int (0 : Int32)]) (by decide +kernel) (by decide) rfl ?_
      exact ac_X1_formCells_35 hB19 h
theorem ac_X1_formCells_19 {K : Nat × (Nat → Int32)} {x : Nat} {Q : tq_O → tq_S → Prop} {a0 : Int32} {a1 : Int32} {a2 : Int32} {a3 : Int64} {a5 : Int32} {z : tq_S} (h : wc_X1_formCells_19 Q a0 a1 a2 a3 a5 z) : tq_T K 2 x mm_X1_formCells 19 [.int a0, .int a1, .int a2, .long a3, .null, .int a5, .null] [] z Q :=
  tq_lp_T (σ := Int64 × Int32 × tq_S) (G := fun s => tq_T K 2 x mm_X1_formCells 19 [.int a0, .int a1, .int a2, .long s.1, .null, .int s.2.1, .null] [] s.2.2 Q) (fun B hB s h => ab_X1_formCells_19 (fun b3 b5 z h => hB (b3, b5, z) h) h) h
def wc_X1_formCells_13 (Q : tq_O → tq_S → Prop) (a0 : Int32) (a1 : Int32) (s0 : Int32) (z : tq_S) : Prop := wc_X1_formCells_19 Q a0 a1 s0 (0 : Int64) (0 : Int32) z
theorem ac_X1_formCells_13 {K : Nat × (Nat → Int32)} {x : Nat} {Q : tq_O → tq_S → Prop} {a0 : Int32} {a1 : Int32} {s0 : Int32} {z : tq_S} (h : wc_X1_formCells_13 Q a0 a1 s0 z) : tq_T K 2 x mm_X1_formCells 13 [.int a0, .int a1, .null, .null, .null, .null, .null] [.int s0] z Q := by
  unfold wc_X1_formCells_13 at h
  refine tq_s_istore_n (kk := 2) (L9 := [.int a0, .int a1, .int s0, .null, .null, .null, .null]) (by decide +kernel) (by decide) rfl ?_
  refine tq_k_lc (n := 0) (v := (0 : Int64)) (by decide +kernel) (by decide +kernel) ?_
  refine tq_s_lstore_n (kk := 3) (L9 := [.int a0, .int a1, .int s0, .long (0 : Int64), .null, .null, .null]) (by decide +kernel) (by decide) rfl ?_
  refine tq_k_ic (n := 0) (v := (0 : Int32)) (by decide +kernel) kc_0 ?_
  refine tq_s_istore (i := 5) (L9 := [.int a0, .int a1, .int s0, .long (0 : Int64), .null, .int (0 : Int32), .null]) (by decide +kernel) (by decide) rfl ?_
  exact ac_X1_formCells_19 h
def wm_X1_formCells (a0 : Int32) (a1 : Int32) (z : tq_S) (Q : tq_O → tq_S → Prop) : Prop := ((¬ a0 = (97 : Int32) → wc_X1_formCells_13 Q a0 a1 a1 z) ∧ (a0 = (97 : Int32) → wc_X1_formCells_13 Q a0 a1 ((2 : Int32) * a1) z))
theorem am_X1_formCells {K : Nat × (Nat → Int32)} {x : Nat} {z : tq_S} {Q : tq_O → tq_S → Prop} {a0 : Int32} {a1 : Int32} (h : wm_X1_formCells a0 a1 z Q) : tq_M K 2 x mm_X1_formCells [.int a0, .int a1] z Q := by
  unfold wm_X1_formCells at h
  refine tq_enter (L := [.int a0, .int a1, .null, .null, .null, .null, .null]) mf_X1_formCells.1 rfl rfl (by decide) ?_
  refine tq_s_iload_n (kk := 0) (by decide +kernel) rfl ?_
  refine tq_k_bi (n := 97) (v := (97 : Int32)) (by decide +kernel) kb_97 ?_
  refine tq_icmp_ne (off := 9) (tgt := 12) (by decide +kernel) (by decide +kernel) (fun hc => ?_) (fun hc => ?_)
  · replace h := h.1 hc
    refine tq_s_iload_n (kk := 1) (by decide +kernel) rfl ?_
    exact ac_X1_formCells_13 h
  · replace h := h.2 hc
    refine tq_k_ic (n := 2) (v := (2 : Int32)) (by decide +kernel) kc_2 ?_
    refine tq_s_iload_n (kk := 1) (by decide +kernel) rfl ?_
    refine tq_s_imul (by decide +kernel) ?_
    refine tq_s_goto (off := 4) (tgt := 13) (by decide +kernel) (by decide +kernel) ?_
    exact ac_X1_formCells_13 h
def wm_X1_holds (a1 : Int32) (a2 : Int32) (z : tq_S) (Q : tq_O → tq_S → Prop) : Prop := ((a1 < 0 → Q (.inl (some (.int (0 : Int32)))) z) ∧ (¬ a1 < 0 → (((tq_fi z 64) ≤ a1 → Q (.inl (some (.int (0 : Int32)))) z) ∧ (¬ (tq_fi z 64) ≤ a1 → ((a2 < 0 → Q (.inl (some (.int (0 : Int32)))) z) ∧ (¬ a2 < 0 → (((tq_fi z 65) ≤ a2 → Q (.inl (some (.int (0 : Int32)))) z) ∧ (¬ (tq_fi z 65) ≤ a2 → (((((Int64.toUInt64 (tq_fl z 67)) >>> ((Int32.toInt64 (((8 : Int32) * a2) + a1)).toUInt64 &&& Int64.toUInt64 63)).toInt64 &&& (1 : Int64)) = (0 : Int64) → Q (.inl (some (.int (0 : Int32)))) z) ∧ (¬ (((Int64.toUInt64 (tq_fl z 67)) >>> ((Int32.toInt64 (((8 : Int32) * a2) + a1)).toUInt64 &&& Int64.toUInt64 63)).toInt64 &&& (1 : Int64)) = (0 : Int64) → Q (.inl (some (.int (1 : Int32)))) z))))))))))
theorem am_X1_holds {K : Nat × (Nat → Int32)} {x : Nat} {z : tq_S} {Q : tq_O → tq_S → Prop} {a1 : Int32} {a2 : Int32} (h : wm_X1_holds a1 a2 z Q) : tq_M K 0 x mm_X1_holds [.ref 1, .int a1, .int a2] z Q := by
  unfold wm_X1_holds at h
  refine tq_enter (L := [.ref 1, .int a1, .int a2]) mf_X1_holds.1 rfl rfl (by decide) ?_
  refine tq_s_iload_n (kk := 1) (by decide +kernel) rfl ?_
  refine tq_if_lt (off := 45) (tgt := 46) (by decide +kernel) (by decide +kernel) (fun hc => ?_) (fun hc => ?_)
  · replace h := h.1 hc
    refine tq_k_ic (n := 0) (v := (0 : Int32)) (by decide +kernel) kc_0 ?_
    exact tq_ret_z (ty := .boolean) (by decide +kernel) (by decide +kernel) rfl h
  · replace h := h.2 hc
    refine tq_s_iload_n (kk := 1) (by decide +kernel) rfl ?_
    refine tq_s_aload_n (kk := 0) (by decide +kernel) rfl ?_
    refine fg_1_7_1 rfl (by decide +kernel) ?_
    refine tq_icmp_ge (off := 37) (tgt := 46) (by decide +kernel) (by decide +kernel) (fun hc => ?_) (fun hc => ?_)
    · replace h := h.1 hc
      refine tq_k_ic (n := 0) (v := (0 : Int32)) (by decide +kernel) kc_0 ?_
      exact tq_ret_z (ty := .boolean) (by decide +kernel) (by decide +kernel) rfl h
    · replace h := h.2 hc
      refine tq_s_iload_n (kk := 2) (by decide +kernel) rfl ?_
      refine tq_if_lt (off := 33) (tgt := 46) (by decide +kernel) (by decide +kernel) (fun hc => ?_) (fun hc => ?_)
      · replace h := h.1 hc
        refine tq_k_ic (n := 0) (v := (0 : Int32)) (by decide +kernel) kc_0 ?_
        exact tq_ret_z (ty := .boolean) (by decide +kernel) (by decide +kernel) rfl h
      · replace h := h.2 hc
        refine tq_s_iload_n (kk := 2) (by decide +kernel) rfl ?_
        refine tq_s_aload_n (kk := 0) (by decide +kernel) rfl ?_
        refine fg_1_13_1 rfl (by decide +kernel) ?_
        refine tq_icmp_ge (off := 25) (tgt := 46) (by decide +kernel) (by decide +kernel) (fun hc => ?_) (fun hc => ?_)
        · replace h := h.1 hc
          refine tq_k_ic (n := 0) (v := (0 : Int32)) (by decide +kernel) kc_0 ?_
          exact tq_ret_z (ty := .boolean) (by decide +kernel) (by decide +kernel) rfl h
        · replace h := h.2 hc
          refine tq_s_aload_n (kk := 0) (by decide +kernel) rfl ?_
          refine fg_1_20_1 rfl (by decide +kernel) ?_
          refine tq_k_bi (n := 8) (v := (8 : Int32)) (by decide +kernel) kb_8 ?_
          refine tq_s_iload_n (kk := 2) (by decide +kernel) rfl ?_
          refine tq_s_imul (by decide +kernel) ?_
          refine tq_s_iload_n (kk := 1) (by decide +kernel) rfl ?_
          refine tq_s_iadd (by decide +kernel) ?_
          refine tq_s_lushr (by decide +kernel) ?_
          refine tq_k_lc (n := 1) (v := (1 : Int64)) (by decide +kernel) (by decide +kernel) ?_
          refine tq_s_land (by decide +kernel) ?_
          refine tq_k_lc (n := 0) (v := (0 : Int64)) (by decide +kernel) (by decide +kernel) ?_
          refine tq_lcmp_eq (off := 7) (tgt := 46) (by decide +kernel) (by decide +kernel) (by decide +kernel) (fun hc => ?_) (fun hc => ?_)
          · replace h := h.1 hc
            refine tq_k_ic (n := 0) (v := (0 : Int32)) (by decide +kernel) kc_0 ?_
            exact tq_ret_z (ty := .boolean) (by decide +kernel) (by decide +kernel) rfl h
          · replace h := h.2 hc
            refine tq_k_ic (n := 1) (v := (1 : Int32)) (by decide +kernel) kc_1 ?_
            refine tq_s_goto (off := 4) (tgt := 47) (by decide +kernel) (by decide +kernel) ?_
            exact tq_ret_z (ty := .boolean) (by decide +kernel) (by decide +kernel) rfl h
def wm_X1_change (a1 : Int32) (a2 : Int32) (z : tq_S) (Q : tq_O → tq_S → Prop) : Prop := wm_X1_bit a1 a2 z (tq_wl fun r2 z1 => ∀ z3 : tq_S, z3 = tq_sfl z1 67 ((tq_fl z 67) ^^^ r2) → ∀ z4 : tq_S, z4 = tq_sfi z3 68 ((tq_fi z3 68) + (1 : Int32)) → Q (.inl none) z4)
theorem am_X1_change {K : Nat × (Nat → Int32)} {x : Nat} {z : tq_S} {Q : tq_O → tq_S → Prop} {a1 : Int32} {a2 : Int32} (h : wm_X1_change a1 a2 z Q) : tq_M K 1 x mm_X1_change [.ref 1, .int a1, .int a2] z Q := by
  unfold wm_X1_change at h
  refine tq_enter (L := [.ref 1, .int a1, .int a2]) mf_X1_change.1 rfl rfl (by decide) ?_
  refine tq_s_aload_n (kk := 0) (by decide +kernel) rfl ?_
  refine tq_s_dup (by decide +kernel) rfl ?_
  refine fg_1_20_1 rfl (by decide +kernel) ?_
  refine tq_s_iload_n (kk := 1) (by decide +kernel) rfl ?_
  refine tq_s_iload_n (kk := 2) (by decide +kernel) rfl ?_
  refine tq_callS (as := [.int a1, .int a2]) (st := [.long (tq_fl z 67), .ref 1]) (d1 := 0) (x1 := 0) (x2 := x) (by decide +kernel) ln_1_37 mf_X1_bit rfl (by decide) np_X1_bit rfl (Nat.le_of_ble_eq_true rfl) (by decide) (Nat.zero_add _).symm (tq_M_mono (am_X1_bit h) ?_)
  refine tq_wl_e (fun r2 z1 h => ?_)
  refine tq_s_lxor (by decide +kernel) ?_
  refine fp_1_20_1 rfl (by decide +kernel) (fun z3 ez3 => ?_)
  replace h := h z3 ez3
  refine tq_s_aload_n (kk := 0) (by decide +kernel) rfl ?_
  refine tq_s_dup (by decide +kernel) rfl ?_
  refine fg_1_24_1 rfl (by decide +kernel) ?_
  refine tq_k_ic (n := 1) (v := (1 : Int32)) (by decide +kernel) kc_1 ?_
  refine tq_s_iadd (by decide +kernel) ?_
  refine fp_1_24_1 rfl (by decide +kernel) (fun z4 ez4 => ?_)
  replace h := h z4 ez4
  exact tq_ret_v (by decide +kernel) rfl h
def wm_X1_isWithin (a1 : Int32) (a2 : Int32) (z : tq_S) (Q : tq_O → tq_S → Prop) : Prop := ((a1 < 0 → Q (.inl (some (.int (0 : Int32)))) z) ∧ (¬ a1 < 0 → (((tq_fi z 64) ≤ a1 → Q (.inl (some (.int (0 : Int32)))) z) ∧ (¬ (tq_fi z 64) ≤ a1 → ((a2 < 0 → Q (.inl (some (.int (0 : Int32)))) z) ∧ (¬ a2 < 0 → (((tq_fi z 65) ≤ a2 → Q (.inl (some (.int (0 : Int32)))) z) ∧ (¬ (tq_fi z 65) ≤ a2 → Q (.inl (some (.int (1 : Int32)))) z))))))))
theorem am_X1_isWithin {K : Nat × (Nat → Int32)} {x : Nat} {z : tq_S} {Q : tq_O → tq_S → Prop} {a1 : Int32} {a2 : Int32} (h : wm_X1_isWithin a1 a2 z Q) : tq_M K 0 x mm_X1_isWithin [.ref 1, .int a1, .int a2] z Q := by
  unfold wm_X1_isWithin at h
  refine tq_enter (L := [.ref 1, .int a1, .int a2]) mf_X1_isWithin.1 rfl rfl (by decide) ?_
  refine tq_s_iload_n (kk := 1) (by decide +kernel) rfl ?_
  refine tq_if_lt (off := 27) (tgt := 28) (by decide +kernel) (by decide +kernel) (fun hc => ?_) (fun hc => ?_)
  · replace h := h.1 hc
    refine tq_k_ic (n := 0) (v := (0 : Int32)) (by decide +kernel) kc_0 ?_
    exact tq_ret_z (ty := .boolean) (by decide +kernel) (by decide +kernel) rfl h
  · replace h := h.2 hc
    refine tq_s_iload_n (kk := 1) (by decide +kernel) rfl ?_
    refine tq_s_aload_n (kk := 0) (by decide +kernel) rfl ?_
    refine fg_1_7_1 rfl (by decide +kernel) ?_
    refine tq_icmp_ge (off := 19) (tgt := 28) (by decide +kernel) (by decide +kernel) (fun hc => ?_) (fun hc => ?_)
    · replace h := h.1 hc
      refine tq_k_ic (n := 0) (v := (0 : Int32)) (by decide +kernel) kc_0 ?_
      exact tq_ret_z (ty := .boolean) (by decide +kernel) (by decide +kernel) rfl h
    · replace h := h.2 hc
      refine tq_s_iload_n (kk := 2) (by decide +kernel) rfl ?_
      refine tq_if_lt (off := 15) (tgt := 28) (by decide +kernel) (by decide +kernel) (fun hc => ?_) (fun hc => ?_)
      · replace h := h.1 hc
        refine tq_k_ic (n := 0) (v := (0 : Int32)) (by decide +kernel) kc_0 ?_
        exact tq_ret_z (ty := .boolean) (by decide +kernel) (by decide +kernel) rfl h
      · replace h := h.2 hc
        refine tq_s_iload_n (kk := 2) (by decide +kernel) rfl ?_
        refine tq_s_aload_n (kk := 0) (by decide +kernel) rfl ?_
        refine fg_1_13_1 rfl (by decide +kernel) ?_
        refine tq_icmp_ge (off := 7) (tgt := 28) (by decide +kernel) (by decide +kernel) (fun hc => ?_) (fun hc => ?_)
        · replace h := h.1 hc
          refine tq_k_ic (n := 0) (v := (0 : Int32)) (by decide +kernel) kc_0 ?_
          exact tq_ret_z (ty := .boolean) (by decide +kernel) (by decide +kernel) rfl h
        · replace h := h.2 hc
          refine tq_k_ic (n := 1) (v := (1 : Int32)) (by decide +kernel) kc_1 ?_
          refine tq_s_goto (off := 4) (tgt := 29) (by decide +kernel) (by decide +kernel) ?_
          exact tq_ret_z (ty := .boolean) (by decide +kernel) (by decide +kernel) rfl h
def wm_X1_canBeRolled  (z : tq_S) (Q : tq_O → tq_S → Prop) : Prop := ((¬ ((tq_fi z 64) - (tq_fi z 64) / (2 : Int32) * (2 : Int32)) = 0 → Q (.inl (some (.int (0 : Int32)))) z) ∧ (((tq_fi z 64) - (tq_fi z 64) / (2 : Int32) * (2 : Int32)) = 0 → (((tq_fi z 64) < (4 : Int32) → Q (.inl (some (.int (0 : Int32)))) z) ∧ (¬ (tq_fi z 64) < (4 : Int32) → Q (.inl (some (.int (1 : Int32)))) z))))
theorem am_X1_canBeRolled {K : Nat × (Nat → Int32)} {x : Nat} {z : tq_S} {Q : tq_O → tq_S → Prop}  (h : wm_X1_canBeRolled z Q) : tq_M K 0 x mm_X1_canBeRolled [.ref 1] z Q := by
  unfold wm_X1_canBeRolled at h
  refine tq_enter (L := [.ref 1]) mf_X1_canBeRolled.1 rfl rfl (by decide) ?_
  refine tq_s_aload_n (kk := 0) (by decide +kernel) rfl ?_
  refine fg_1_7_1 rfl (by decide +kernel) ?_
  refine tq_k_ic (n := 2) (v := (2 : Int32)) (by decide +kernel) kc_2 ?_
  refine tq_s_irem (by decide +kernel) (by decide +kernel) ?_
  refine tq_if_ne (off := 15) (tgt := 21) (by decide +kernel) (by decide +kernel) (fun hc => ?_) (fun hc => ?_)
  · replace h := h.1 hc
    refine tq_k_ic (n := 0) (v := (0 : Int32)) (by decide +kernel) kc_0 ?_
    exact tq_ret_z (ty := .boolean) (by decide +kernel) (by decide +kernel) rfl h
  · replace h := h.2 hc
    refine tq_s_aload_n (kk := 0) (by decide +kernel) rfl ?_
    refine fg_1_7_1 rfl (by decide +kernel) ?_
    refine tq_k_ic (n := 4) (v := (4 : Int32)) (by decide +kernel) kc_4 ?_
    refine tq_icmp_lt (off := 7) (tgt := 21) (by decide +kernel) (by decide +kernel) (fun hc => ?_) (fun hc => ?_)
    · replace h := h.1 hc
      refine tq_k_ic (n := 0) (v := (0 : Int32)) (by decide +kernel) kc_0 ?_
      exact tq_ret_z (ty := .boolean) (by decide +kernel) (by decide +kernel) rfl h
    · replace h := h.2 hc
      refine tq_k_ic (n := 1) (v := (1 : Int32)) (by decide +kernel) kc_1 ?_
      refine tq_s_goto (off := 4) (tgt := 22) (by decide +kernel) (by decide +kernel) ?_
      exact tq_ret_z (ty := .boolean) (by decide +kernel) (by decide +kernel) rfl h
def wm_X1_turnRound (a1 : Int32) (z : tq_S) (Q : tq_O → tq_S → Prop) : Prop := tq_nz a1 ∧ ∀ z1 : tq_S, z1 = tq_sfi z 66 a1 → ∀ z2 : tq_S, z2 = tq_sfi z1 68 ((tq_fi z1 68) + (1 : Int32)) → Q (.inl none) z2
theorem am_X1_turnRound {K : Nat × (Nat → Int32)} {x : Nat} {z : tq_S} {Q : tq_O → tq_S → Prop} {a1 : Int32} (h : wm_X1_turnRound a1 z Q) : tq_M K 0 x mm_X1_turnRound [.ref 1, .int a1] z Q := by
  unfold wm_X1_turnRound at h
  refine tq_enter (L := [.ref 1, .int a1]) mf_X1_turnRound.1 rfl rfl (by decide) ?_
  refine tq_s_aload_n (kk := 0) (by decide +kernel) rfl ?_
  refine tq_s_iload_n (kk := 1) (by decide +kernel) rfl ?_
  refine fp_1_16_1 rfl (by decide +kernel) (tq_nz_f h.1) (fun z1 ez1 => ?_)
  replace h := h.2 z1 ez1
  refine tq_s_aload_n (kk := 0) (by decide +kernel) rfl ?_
  refine tq_s_dup (by decide +kernel) rfl ?_
  refine fg_1_24_1 rfl (by decide +kernel) ?_
  refine tq_k_ic (n := 1) (v := (1 : Int32)) (by decide +kernel) kc_1 ?_
  refine tq_s_iadd (by decide +kernel) ?_
  refine fp_1_24_1 rfl (by decide +kernel) (fun z2 ez2 => ?_)
  replace h := h z2 ez2
  exact tq_ret_v (by decide +kernel) rfl h
def wm_X1_beside (a1 : Int64) (z : tq_S) (Q : tq_O → tq_S → Prop) : Prop := ∀ v1 : Int64, v1 = ((((a1 <<< ((Int32.toInt64 (8 : Int32)) &&& 63)) ||| ((Int64.toUInt64 a1) >>> ((Int32.toInt64 (8 : Int32)).toUInt64 &&& Int64.toUInt64 63)).toInt64) ||| ((a1 &&& ((-9187201950435737472 : Int64) ^^^ (-1 : Int64))) <<< ((Int32.toInt64 (1 : Int32)) &&& 63))) ||| ((Int64.toUInt64 (a1 &&& (-72340172838076674 : Int64))) >>> ((Int32.toInt64 (1 : Int32)).toUInt64 &&& Int64.toUInt64 63)).toInt64) → (((tq_fi z 66) = 0 → Q (.inl (some (.long v1))) z) ∧ (¬ (tq_fi z 66) = 0 → ∀ v2 : Int64, v2 = (v1 ||| ((a1 &&& (72340172838076673 : Int64)) <<< ((Int32.toInt64 ((tq_fi z 64) - (1 : Int32))) &&& 63))) → ∀ v3 : Int64, v3 = (v2 ||| (((Int64.toUInt64 a1) >>> ((Int32.toInt64 ((tq_fi z 64) - (1 : Int32))).toUInt64 &&& Int64.toUInt64 63)).toInt64 &&& (72340172838076673 : Int64))) → Q (.inl (some (.long v3))) z))
theorem am_X1_beside {K : Nat × (Nat → Int32)} {x : Nat} {z : tq_S} {Q : tq_O → tq_S → Prop} {a1 : Int64} (h : wm_X1_beside a1 z Q) : tq_M K 0 x mm_X1_beside [.ref 1, .long a1] z Q := by
  unfold wm_X1_beside at h
  refine tq_enter (L := [.ref 1, .long a1, .null, .null, .null, .null, .null]) mf_X1_beside.1 rfl rfl (by decide) ?_
  refine tq_s_ldc2 (v := (-9187201950435737472 : Int64)) (by decide +kernel) (by decide +kernel) ?_
  refine tq_s_lstore_n (kk := 3) (L9 := [.ref 1, .long a1, .null, .long (-9187201950435737472 : Int64), .null, .null, .null]) (by decide +kernel) (by decide) rfl ?_
  refine tq_s_lload_n (kk := 1) (by decide +kernel) rfl ?_
  refine tq_k_bi (n := 8) (v := (8 : Int32)) (by decide +kernel) kb_8 ?_
  refine tq_s_lshl (by decide +kernel) ?_
  refine tq_s_lload_n (kk := 1) (by decide +kernel) rfl ?_
  refine tq_k_bi (n := 8) (v := (8 : Int32)) (by decide +kernel) kb_8 ?_
  refine tq_s_lushr (by decide +kernel) ?_
  refine tq_s_lor (by decide +kernel) ?_
  refine tq_s_lload_n (kk := 1) (by decide +kernel) rfl ?_
  refine tq_s_lload_n (kk := 3) (by decide +kernel) rfl ?_
  refine tq_s_ldc2 (v := (-1 : Int64)) (by decide +kernel) (by decide +kernel) ?_
  refine tq_s_lxor (by decide +kernel) ?_
  refine tq_s_land (by decide +kernel) ?_
  refine tq_k_ic (n := 1) (v := (1 : Int32)) (by decide +kernel) kc_1 ?_
  refine tq_s_lshl (by decide +kernel) ?_
  refine tq_s_lor (by decide +kernel) ?_
  refine tq_s_lload_n (kk := 1) (by decide +kernel) rfl ?_
  refine tq_s_ldc2 (v := (-72340172838076674 : Int64)) (by decide +kernel) (by decide +kernel) ?_
  refine tq_s_land (by decide +kernel) ?_
  refine tq_k_ic (n := 1) (v := (1 : Int32)) (by decide +kernel) kc_1 ?_
  refine tq_s_lushr (by decide +kernel) ?_
  refine tq_s_lor (by decide +kernel) ?_
  refine tq_g_lstore (i := 5) (fun v1 => [.ref 1, .long a1, .null, .long (-9187201950435737472 : Int64), .null, .long v1, .null]) (by decide +kernel) (by decide) (fun _ => rfl) (fun v1 ev1 => ?_)
  replace h := h v1 ev1
  refine tq_s_aload_n (kk := 0) (by decide +kernel) rfl ?_
  refine fg_1_16_1 rfl (by decide +kernel) ?_
  refine tq_if_eq (off := 37) (tgt := 74) (by decide +kernel) (by decide +kernel) (fun hc => ?_) (fun hc => ?_)
  · replace h := h.1 hc
    refine tq_s_lload (i := 5) (by decide +kernel) rfl ?_
    exact tq_ret_l (by decide +kernel) rfl h
  · replace h := h.2 hc
    refine tq_s_lload (i := 5) (by decide +kernel) rfl ?_
    refine tq_s_lload_n (kk := 1) (by decide +kernel) rfl ?_
    refine tq_s_ldc2 (v := (72340172838076673 : Int64)) (by decide +kernel) (by decide +kernel) ?_
    refine tq_s_land (by decide +kernel) ?_
    refine tq_s_aload_n (kk := 0) (by decide +kernel) rfl ?_
    refine fg_1_7_1 rfl (by decide +kernel) ?_
    refine tq_k_ic (n := 1) (v := (1 : Int32)) (by decide +kernel) kc_1 ?_
    refine tq_s_isub (by decide +kernel) ?_
    refine tq_s_lshl (by decide +kernel) ?_
    refine tq_s_lor (by decide +kernel) ?_
    refine tq_g_lstore (i := 5) (fun v2 => [.ref 1, .long a1, .null, .long (-9187201950435737472 : Int64), .null, .long v2, .null]) (by decide +kernel) (by decide) (fun _ => rfl) (fun v2 ev2 => ?_)
    replace h := h v2 ev2
    refine tq_s_lload (i := 5) (by decide +kernel) rfl ?_
    refine tq_s_lload_n (kk := 1) (by decide +kernel) rfl ?_
    refine tq_s_aload_n (kk := 0) (by decide +kernel) rfl ?_
    refine fg_1_7_1 rfl (by decide +kernel) ?_
    refine tq_k_ic (n := 1) (v := (1 : Int32)) (by decide +kernel) kc_1 ?_
    refine tq_s_isub (by decide +kernel) ?_
    refine tq_s_lushr (by decide +kernel) ?_
    refine tq_s_ldc2 (v := (72340172838076673 : Int64)) (by decide +kernel) (by decide +kernel) ?_
    refine tq_s_land (by decide +kernel) ?_
    refine tq_s_lor (by decide +kernel) ?_
    refine tq_g_lstore (i := 5) (fun v3 => [.ref 1, .long a1, .null, .long (-9187201950435737472 : Int64), .null, .long v3, .null]) (by decide +kernel) (by decide) (fun _ => rfl) (fun v3 ev3 => ?_)
    replace h := h v3 ev3
    refine tq_s_lload (i := 5) (by decide +kernel) rfl ?_
    exact tq_ret_l (by decide +kernel) rfl h
def wb_X1_reach_6 (B6 : Int64 → Int32 → tq_S → Prop) (Q : tq_O → tq_S → Prop) (a3 : Int64) (a5 : Int64) (a7 : Int32) (z : tq_S) : Prop := (((64 : Int32) ≤ a7 → Q (.inl (some (.long a5))) z) ∧ (¬ (64 : Int32) ≤ a7 → wm_X1_beside a5 z (tq_wl fun r102 z101 => ∀ v103 : Int64, v103 = (a5 ||| (r102 &&& a3)) → ((¬ v103 = a5 → ∀ v104 : Int32, v104 = a7 + (1 : Int32) → B6 v103 v104 z101) ∧ (v103 = a5 → Q (.inl (some (.long a5))) z101)))))
def wc_X1_reach_6 (Q : tq_O → tq_S → Prop) (a3 : Int64) (a5 : Int64) (a7 : Int32) (z : tq_S) : Prop := tq_lp (σ := Int64 × Int32 × tq_S) (fun B s => wb_X1_reach_6 (fun b5 b7 z => B (b5, b7, z)) Q a3 s.1 s.2.1 s.2.2) (a5, a7, z)
theorem ab_X1_reach_6 {K : Nat × (Nat → Int32)} {x : Nat} {Q : tq_O → tq_S → Prop} {B6 : Int64 → Int32 → tq_S → Prop} {a3 : Int64} {a5 : Int64} {a7 : Int32} {z : tq_S} (hB6 : ∀ (b5 : Int64) (b7 : Int32) (z : tq_S), B6 b5 b7 z → tq_T K 1 x mm_X1_reach 6 [.ref 1, .null, .null, .long a3, .null, .long b5, .null, .int b7, .null, .null] [] z Q) (h : wb_X1_reach_6 B6 Q a3 a5 a7 z) : tq_T K 1 x mm_X1_reach 6 [.ref 1, .null, .null, .long a3, .null, .long a5, .null, .int a7, .null, .null] [] z Q := by
  unfold wb_X1_reach_6 at h
  refine tq_s_iload (i := 7) (by decide +kernel) rfl ?_
  refine tq_k_bi (n := 64) (v := (64 : Int32)) (by decide +kernel) kb_64 ?_
  refine tq_icmp_ge (off := 37) (tgt := 47) (by decide +kernel) (by decide +kernel) (fun hc => ?_) (fun hc => ?_)
  · replace h := h.1 hc
    refine tq_s_lload (i := 5) (by decide +kernel) rfl ?_
    exact tq_ret_l (by decide +kernel) rfl h
  · replace h := h.2 hc
    refine tq_s_lload (i := 5) (by decide +kernel) rfl ?_
    refine tq_s_aload_n (kk := 0) (by decide +kernel) rfl ?_
    refine tq_s_lload (i := 5) (by decide +kernel) rfl ?_
    refine tq_callV (as := [.long a5]) (st := [.long a5]) (d1 := 0) (x1 := 0) (x2 := x) (by decide +kernel) ln_1_63 mf_X1_beside rfl sh_1 rfl (by decide) np_X1_beside rfl (Nat.le_of_ble_eq_true rfl) (by decide) (Nat.zero_add _).symm (tq_M_mono (am_X1_beside h) ?_)
    refine tq_wl_e (fun r102 z101 h => ?_)
    refine tq_s_lload_n (kk := 3) (by decide +kernel) rfl ?_
    refine tq_s_land (by decide +kernel) ?_
    refine tq_s_lor (by decide +kernel) ?_
    refine tq_g_lstore (i := 8) (fun v103 => [.ref 1, .null, .null, .long a3, .null, .long a5, .null, .int a7, .long v103, .null]) (by decide +kernel) (by decide) (fun _ => rfl) (fun v103 ev103 => ?_)
    replace h := h v103 ev103
    refine tq_s_lload (i := 8) (by decide +kernel) rfl ?_
    refine tq_s_lload (i := 5) (by decide +kernel) rfl ?_
    refine tq_lcmp_ne (off := 6) (tgt := 37) (by decide +kernel) (by decide +kernel) (by decide +kernel) (fun hc => ?_) (fun hc => ?_)
    · replace h := h.1 hc
      refine tq_s_lload (i := 8) (by decide +kernel) rfl ?_
      refine tq_s_lstore (i := 5) (L9 := [.ref 1, .null, .null, .long a3, .null, .long v103, .null, .int a7, .long v103, .null]) (by decide +kernel) (by decide) rfl ?_
      refine tq_g_iinc (i := 7) (fun v104 => [.ref 1, .null, .null, .long a3, .null, .long v103, .null, .int v104, .long v103, .null]) (by decide +kernel) rfl (1 : Int32) kc_1 (fun _ => rfl) (fun v104 ev104 => ?_)
      replace h := h v104 ev104
      refine tq_s_goto (off := -38) (tgt := 6) (by decide +kernel) (by decide +kernel) ?_
      exact tq_to (tq_lk1 (tq_lk1 (tq_lk1 (tq_lk1 (tq_lk1 (tq_lk1 (tq_lk1 (tq_lk1 (tq_ld1 (tq_lk1 tq_l0)))))))))) (hB6 _ _ _ h)
    · replace h := h.2 hc
      refine tq_s_goto (off := 13) (tgt := 47) (by decide +kernel) (by decide +kernel) ?_
      refine tq_s_lload (i := 5) (by decide +kernel) rfl ?_
      exact tq_ret_l (by decide +kernel) rfl h
theorem ac_X1_reach_6 {K : Nat × (Nat → Int32)} {x : Nat} {Q : tq_O → tq_S → Prop} {a3 : Int64} {a5 : Int64} {a7 : Int32} {z : tq_S} (h : wc_X1_reach_6 Q a3 a5 a7 z) : tq_T K 1 x mm_X1_reach 6 [.ref 1, .null, .null, .long a3, .null, .long a5, .null, .int a7, .null, .null] [] z Q :=
  tq_lp_T (σ := Int64 × Int32 × tq_S) (G := fun s => tq_T K 1 x mm_X1_reach 6 [.ref 1, .null, .null, .long a3, .null, .long s.1, .null, .int s.2.1, .null, .null] [] s.2.2 Q) (fun B hB s h => ab_X1_reach_6 (fun b5 b7 z h => hB (b5, b7, z) h) h) h
def wm_X1_reach (a1 : Int64) (a3 : Int64) (z : tq_S) (Q : tq_O → tq_S → Prop) : Prop := wc_X1_reach_6 Q a3 a1 (0 : Int32) z
theorem am_X1_reach {K : Nat × (Nat → Int32)} {x : Nat} {z : tq_S} {Q : tq_O → tq_S → Prop} {a1 : Int64} {a3 : Int64} (h : wm_X1_reach a1 a3 z Q) : tq_M K 1 x mm_X1_reach [.ref 1, .long a1, .long a3] z Q := by
  unfold wm_X1_reach at h
  refine tq_enter (L := [.ref 1, .long a1, .null, .long a3, .null, .null, .null, .null, .null, .null]) mf_X1_reach.1 rfl rfl (by decide) ?_
  refine tq_s_lload_n (kk := 1) (by decide +kernel) rfl ?_
  refine tq_s_lstore (i := 5) (L9 := [.ref 1, .long a1, .null, .long a3, .null, .long a1, .null, .null, .null, .null]) (by decide +kernel) (by decide) rfl ?_
  refine tq_k_ic (n := 0) (v := (0 : Int32)) (by decide +kernel) kc_0 ?_
  refine tq_s_istore (i := 7) (L9 := [.ref 1, .long a1, .null, .long a3, .null, .long a1, .null, .int (0 : Int32), .null, .null]) (by decide +kernel) (by decide) rfl ?_
  exact tq_to (tq_lk1 (tq_ld1 (tq_lk1 (tq_lk1 (tq_lk1 (tq_lk1 (tq_lk1 (tq_lk1 (tq_lk1 (tq_lk1 tq_l0)))))))))) (ac_X1_reach_6 h)
def wc_X1_countGroups_59 (B9 : Int32 → Int64 → Int32 → tq_S → Prop) (Q : tq_O → tq_S → Prop) (a1 : Int64) (a3 : Int64) (a5 : Int32) (a6 : Int64) (a8 : Int32) (z : tq_S) : Prop := ∀ v101 : Int32, v101 = a8 + (1 : Int32) → B9 a5 a6 v101 z
theorem ac_X1_countGroups_59 {K : Nat × (Nat → Int32)} {x : Nat} {Q : tq_O → tq_S → Prop} {B9 : Int32 → Int64 → Int32 → tq_S → Prop} {a1 : Int64} {a3 : Int64} {a5 : Int32} {a6 : Int64} {a8 : Int32} {z : tq_S} (hB9 : ∀ (b5 : Int32) (b6 : Int64) (b8 : Int32) (z : tq_S), B9 b5 b6 b8 z → tq_T K 2 x mm_X1_countGroups 9 [.ref 1, .long a1, .null, .long a3, .null, .int b5, .long b6, .null, .int b8, .null, .null] [] z Q) (h : wc_X1_countGroups_59 B9 Q a1 a3 a5 a6 a8 z) : tq_T K 2 x mm_X1_countGroups 59 [.ref 1, .long a1, .null, .long a3, .null, .int a5, .long a6, .null, .int a8, .null, .null] [] z Q := by
  unfold wc_X1_countGroups_59 at h
  refine tq_g_iinc (i := 8) (fun v101 => [.ref 1, .long a1, .null, .long a3, .null, .int a5, .long a6, .null, .int v101, .null, .null]) (by decide +kernel) rfl (1 : Int32) kc_1 (fun _ => rfl) (fun v101 ev101 => ?_)
  replace h := h v101 ev101
  refine tq_s_goto (off := -53) (tgt := 9) (by decide +kernel) (by decide +kernel) ?_
  exact hB9 _ _ _ _ h
def wb_X1_countGroups_9 (B9 : Int32 → Int64 → Int32 → tq_S → Prop) (Q : tq_O → tq_S → Prop) (a1 : Int64) (a3 : Int64) (a5 : Int32) (a6 : Int64) (a8 : Int32) (z : tq_S) : Prop := (((64 : Int32) ≤ a8 → Q (.inl (some (.int a5))) z) ∧ (¬ (64 : Int32) ≤ a8 → ((a6 = (0 : Int64) → Q (.inl (some (.int a5))) z) ∧ (¬ a6 = (0 : Int64) → wm_X1_reach (a6 &&& (-a6)) a1 z (tq_wl fun r102 z101 => ∀ v103 : Int64, v103 = (a6 &&& (r102 ^^^ (-1 : Int64))) → ((¬ (r102 &&& a3) = (0 : Int64) → wc_X1_countGroups_59 B9 Q a1 a3 a5 v103 a8 z101) ∧ ((r102 &&& a3) = (0 : Int64) → ∀ v104 : Int32, v104 = a5 + (1 : Int32) → wc_X1_countGroups_59 B9 Q a1 a3 v104 v103 a8 z101)))))))
def wc_X1_countGroups_9 (Q : tq_O → tq_S → Prop) (a1 : Int64) (a3 : Int64) (a5 : Int32) (a6 : Int64) (a8 : Int32) (z : tq_S) : Prop := tq_lp (σ := Int32 × Int64 × Int32 × tq_S) (fun B s => wb_X1_countGroups_9 (fun b5 b6 b8 z => B (b5, b6, b8, z)) Q a1 a3 s.1 s.2.1 s.2.2.1 s.2.2.2) (a5, a6, a8, z)
theorem ab_X1_countGroups_9 {K : Nat × (Nat → Int32)} {x : Nat} {Q : tq_O → tq_S → Prop} {B9 : Int32 → Int64 → Int32 → tq_S → Prop} {a1 : Int64} {a3 : Int64} {a5 : Int32} {a6 : Int64} {a8 : Int32} {z : tq_S} (hB9 : ∀ (b5 : Int32) (b6 : Int64) (b8 : Int32) (z : tq_S), B9 b5 b6 b8 z → tq_T K 2 x mm_X1_countGroups 9 [.ref 1, .long a1, .null, .long a3, .null, .int b5, .long b6, .null, .int b8, .null, .null] [] z Q) (h : wb_X1_countGroups_9 B9 Q a1 a3 a5 a6 a8 z) : tq_T K 2 x mm_X1_countGroups 9 [.ref 1, .long a1, .null, .long a3, .null, .int a5, .long a6, .null, .int a8, .null, .null] [] z Q := by
  unfold wb_X1_countGroups_9 at h
  refine tq_s_iload (i := 8) (by decide +kernel) rfl ?_
  refine tq_k_bi (n := 64) (v := (64 : Int32)) (by decide +kernel) kb_64 ?_
  refine tq_icmp_ge (off := 52) (tgt := 65) (by decide +kernel) (by decide +kernel) (fun hc => ?_) (fun hc => ?_)
  · replace h := h.1 hc
    refine tq_s_iload (i := 5) (by decide +kernel) rfl ?_
    exact tq_ret_i (by decide +kernel) rfl h
  · replace h := h.2 hc
    refine tq_s_lload (i := 6) (by decide +kernel) rfl ?_
    refine tq_k_lc (n := 0) (v := (0 : Int64)) (by decide +kernel) (by decide +kernel) ?_
    refine tq_lcmp_eq (off := 45) (tgt := 65) (by decide +kernel) (by decide +kernel) (by decide +kernel) (fun hc => ?_) (fun hc => ?_)
    · replace h := h.1 hc
      refine tq_s_iload (i := 5) (by decide +kernel) rfl ?_
      exact tq_ret_i (by decide +kernel) rfl h
    · replace h := h.2 hc
      refine tq_s_aload_n (kk := 0) (by decide +kernel) rfl ?_
      refine tq_s_lload (i := 6) (by decide +kernel) rfl ?_
      refine tq_s_lload (i := 6) (by decide +kernel) rfl ?_
      refine tq_s_lneg (by decide +kernel) ?_
      refine tq_s_land (by decide +kernel) ?_
      refine tq_s_lload_n (kk := 1) (by decide +kernel) rfl ?_
      refine tq_callV (as := [.long (a6 &&& (-a6)), .long a1]) (st := []) (d1 := 1) (x1 := 0) (x2 := x) (by decide +kernel) ln_1_67 mf_X1_reach rfl sh_1 rfl (by decide) np_X1_reach rfl (Nat.le_of_ble_eq_true rfl) (by decide) (Nat.zero_add _).symm (tq_M_mono (am_X1_reach h) ?_)
      refine tq_wl_e (fun r102 z101 h => ?_)
      refine tq_s_lstore (i := 9) (L9 := [.ref 1, .long a1, .null, .long a3, .null, .int a5, .long a6, .null, .int a8, .long r102, .null]) (by decide +kernel) (by decide) rfl ?_
      refine tq_s_lload (i := 6) (by decide +kernel) rfl ?_
      refine tq_s_lload (i := 9) (by decide +kernel) rfl ?_
      refine tq_s_ldc2 (v := (-1 : Int64)) (by decide +kernel) (by decide +kernel) ?_
      refine tq_s_lxor (by decide +kernel) ?_
      refine tq_s_land (by decide +kernel) ?_
      refine tq_g_lstore (i := 6) (fun v103 => [.ref 1, .long a1, .null, .long a3, .null, .int a5, .long v103, .null, .int a8, .long r102, .null]) (by decide +kernel) (by decide) (fun _ => rfl) (fun v103 ev103 => ?_)
      replace h := h v103 ev103
      refine tq_s_lload (i := 9) (by decide +kernel) rfl ?_
      refine tq_s_lload_n (kk := 3) (by decide +kernel) rfl ?_
      refine tq_s_land (by decide +kernel) ?_
      refine tq_k_lc (n := 0) (v := (0 : Int64)) (by decide +kernel) (by decide +kernel) ?_
      refine tq_lcmp_ne (off := 6) (tgt := 59) (by decide +kernel) (by decide +kernel) (by decide +kernel) (fun hc => ?_) (fun hc => ?_)
      · replace h := h.1 hc
        exact tq_to (tq_lk1 (tq_lk1 (tq_lk1 (tq_lk1 (tq_lk1 (tq_lk1 (tq_lk1 (tq_lk1 (tq_lk1 (tq_ld1 (tq_lk1 tq_l0))))))))))) (ac_X1_countGroups_59 hB9 h)
      · replace h := h.2 hc
        refine tq_g_iinc (i := 5) (fun v104 => [.ref 1, .long a1, .null, .long a3, .null, .int v104, .long v103, .null, .int a8, .long r102, .null]) (by decide +kernel) rfl (1 : Int32) kc_1 (fun _ => rfl) (fun v104 ev104 => ?_)
        replace h := h v104 ev104
        exact tq_to (tq_lk1 (tq_lk1 (tq_lk1 (tq_lk1 (tq_lk1 (tq_lk1 (tq_lk1 (tq_lk1 (tq_lk1 (tq_ld1 (tq_lk1 tq_l0))))))))))) (ac_X1_countGroups_59 hB9 h)
theorem ac_X1_countGroups_9 {K : Nat × (Nat → Int32)} {x : Nat} {Q : tq_O → tq_S → Prop} {a1 : Int64} {a3 : Int64} {a5 : Int32} {a6 : Int64} {a8 : Int32} {z : tq_S} (h : wc_X1_countGroups_9 Q a1 a3 a5 a6 a8 z) : tq_T K 2 x mm_X1_countGroups 9 [.ref 1, .long a1, .null, .long a3, .null, .int a5, .long a6, .null, .int a8, .null, .null] [] z Q :=
  tq_lp_T (σ := Int32 × Int64 × Int32 × tq_S) (G := fun s => tq_T K 2 x mm_X1_countGroups 9 [.ref 1, .long a1, .null, .long a3, .null, .int s.1, .long s.2.1, .null, .int s.2.2.1, .null, .null] [] s.2.2.2 Q) (fun B hB s h => ab_X1_countGroups_9 (fun b5 b6 b8 z h => hB (b5, b6, b8, z) h) h) h
def wm_X1_countGroups (a1 : Int64) (a3 : Int64) (z : tq_S) (Q : tq_O → tq_S → Prop) : Prop := wc_X1_countGroups_9 Q a1 a3 (0 : Int32) a1 (0 : Int32) z
theorem am_X1_countGroups {K : Nat × (Nat → Int32)} {x : Nat} {z : tq_S} {Q : tq_O → tq_S → Prop} {a1 : Int64} {a3 : Int64} (h : wm_X1_countGroups a1 a3 z Q) : tq_M K 2 x mm_X1_countGroups [.ref 1, .long a1, .long a3] z Q := by
  unfold wm_X1_countGroups at h
  refine tq_enter (L := [.ref 1, .long a1, .null, .long a3, .null, .null, .null, .null, .null, .null, .null]) mf_X1_countGroups.1 rfl rfl (by decide) ?_
  refine tq_k_ic (n := 0) (v := (0 : Int32)) (by decide +kernel) kc_0 ?_
  refine tq_s_istore (i := 5) (L9 := [.ref 1, .long a1, .null, .long a3, .null, .int (0 : Int32), .null, .null, .null, .null, .null]) (by decide +kernel) (by decide) rfl ?_
  refine tq_s_lload_n (kk := 1) (by decide +kernel) rfl ?_
  refine tq_s_lstore (i := 6) (L9 := [.ref 1, .long a1, .null, .long a3, .null, .int (0 : Int32), .long a1, .null, .null, .null, .null]) (by decide +kernel) (by decide) rfl ?_
  refine tq_k_ic (n := 0) (v := (0 : Int32)) (by decide +kernel) kc_0 ?_
  refine tq_s_istore (i := 8) (L9 := [.ref 1, .long a1, .null, .long a3, .null, .int (0 : Int32), .long a1, .null, .int (0 : Int32), .null, .null]) (by decide +kernel) (by decide) rfl ?_
  exact ac_X1_countGroups_9 h
def wm_X1_countParts  (z : tq_S) (Q : tq_O → tq_S → Prop) : Prop := wm_X1_countGroups (tq_fl z 67) (0 : Int64) z (tq_wi fun r2 z1 => Q (.inl (some (.int r2))) z1)
theorem am_X1_countParts {K : Nat × (Nat → Int32)} {x : Nat} {z : tq_S} {Q : tq_O → tq_S → Prop}  (h : wm_X1_countParts z Q) : tq_M K 3 x mm_X1_countParts [.ref 1] z Q := by
  unfold wm_X1_countParts at h
  refine tq_enter (L := [.ref 1]) mf_X1_countParts.1 rfl rfl (by decide) ?_
  refine tq_s_aload_n (kk := 0) (by decide +kernel) rfl ?_
  refine tq_s_aload_n (kk := 0) (by decide +kernel) rfl ?_
  refine fg_1_20_1 rfl (by decide +kernel) ?_
  refine tq_k_lc (n := 0) (v := (0 : Int64)) (by decide +kernel) (by decide +kernel) ?_
  refine tq_callV (as := [.long (tq_fl z 67), .long (0 : Int64)]) (st := []) (d1 := 2) (x1 := 0) (x2 := x) (by decide +kernel) ln_1_71 mf_X1_countGroups rfl sh_1 rfl (by decide) np_X1_countGroups rfl (Nat.le_of_ble_eq_true rfl) (by decide) (Nat.zero_add _).symm (tq_M_mono (am_X1_countGroups h) ?_)
  refine tq_wi_e (fun r2 z1 h => ?_)
  exact tq_ret_i (by decide +kernel) rfl h
def wc_X1_countHoles_42 (Q : tq_O → tq_S → Prop) (a1 : Int64) (z : tq_S) : Prop := wm_X1_rectangleOf (tq_fi z 64) (tq_fi z 65) z (tq_wl fun r102 z101 => wm_X1_countGroups (r102 &&& ((tq_fl z101 67) ^^^ (-1 : Int64))) a1 z101 (tq_wi fun r104 z103 => Q (.inl (some (.int r104))) z103))
theorem ac_X1_countHoles_42 {K : Nat × (Nat → Int32)} {x : Nat} {Q : tq_O → tq_S → Prop} {a1 : Int64} {z : tq_S} (h : wc_X1_countHoles_42 Q a1 z) : tq_T K 3 x mm_X1_countHoles 42 [.ref 1, .long a1, .null] [] z Q := by
  unfold wc_X1_countHoles_42 at h
  refine tq_s_aload_n (kk := 0) (by decide +kernel) rfl ?_
  refine tq_s_aload_n (kk := 0) (by decide +kernel) rfl ?_
  refine fg_1_7_1 rfl (by decide +kernel) ?_
  refine tq_s_aload_n (kk := 0) (by decide +kernel) rfl ?_
  refine fg_1_13_1 rfl (by decide +kernel) ?_
  refine tq_callS (as := [.int (tq_fi z 64), .int (tq_fi z 65)]) (st := [.ref 1]) (d1 := 0) (x1 := 0) (x2 := x) (by decide +kernel) ln_1_77 mf_X1_rectangleOf rfl (by decide) np_X1_rectangleOf rfl (Nat.le_of_ble_eq_true rfl) (by decide) (Nat.zero_add _).symm (tq_M_mono (am_X1_rectangleOf h) ?_)
  refine tq_wl_e (fun r102 z101 h => ?_)
  refine tq_s_aload_n (kk := 0) (by decide +kernel) rfl ?_
  refine fg_1_20_1 rfl (by decide +kernel) ?_
  refine tq_s_ldc2 (v := (-1 : Int64)) (by decide +kernel) (by decide +kernel) ?_
  refine tq_s_lxor (by decide +kernel) ?_
  refine tq_s_land (by decide +kernel) ?_
  refine tq_s_lload_n (kk := 1) (by decide +kernel) rfl ?_
  refine tq_callV (as := [.long (r102 &&& ((tq_fl z101 67) ^^^ (-1 : Int64))), .long a1]) (st := []) (d1 := 2) (x1 := 0) (x2 := x) (by decide +kernel) ln_1_71 mf_X1_countGroups rfl sh_1 rfl (by decide) np_X1_countGroups rfl (Nat.le_of_ble_eq_true rfl) (by decide) (Nat.zero_add _).symm (tq_M_mono (am_X1_countGroups h) ?_)
  refine tq_wi_e (fun r104 z103 h => ?_)
  exact tq_ret_i (by decide +kernel) rfl h
def wm_X1_countHoles  (z : tq_S) (Q : tq_O → tq_S → Prop) : Prop := ∀ v1 : Int64, v1 = ((255 : Int64) ||| ((255 : Int64) <<< ((Int32.toInt64 ((8 : Int32) * ((tq_fi z 65) - (1 : Int32)))) &&& 63))) → ((¬ (tq_fi z 66) = 0 → wc_X1_countHoles_42 Q v1 z) ∧ ((tq_fi z 66) = 0 → ∀ v2 : Int64, v2 = (v1 ||| ((72340172838076673 : Int64) ||| ((72340172838076673 : Int64) <<< ((Int32.toInt64 ((tq_fi z 64) - (1 : Int32))) &&& 63)))) → wc_X1_countHoles_42 Q v2 z))
theorem am_X1_countHoles {K : Nat × (Nat → Int32)} {x : Nat} {z : tq_S} {Q : tq_O → tq_S → Prop}  (h : wm_X1_countHoles z Q) : tq_M K 3 x mm_X1_countHoles [.ref 1] z Q := by
  unfold wm_X1_countHoles at h
  refine tq_enter (L := [.ref 1, .null, .null]) mf_X1_countHoles.1 rfl rfl (by decide) ?_
  refine tq_s_ldc2 (v := (255 : Int64)) (by decide +kernel) (by decide +kernel) ?_
  refine tq_s_ldc2 (v := (255 : Int64)) (by decide +kernel) (by decide +kernel) ?_
  refine tq_k_bi (n := 8) (v := (8 : Int32)) (by decide +kernel) kb_8 ?_
  refine tq_s_aload_n (kk := 0) (by decide +kernel) rfl ?_
  refine fg_1_13_1 rfl (by decide +kernel) ?_
  refine tq_k_ic (n := 1) (v := (1 : Int32)) (by decide +kernel) kc_1 ?_
  refine tq_s_isub (by decide +kernel) ?_
  refine tq_s_imul (by decide +kernel) ?_
  refine tq_s_lshl (by decide +kernel) ?_
  refine tq_s_lor (by decide +kernel) ?_
  refine tq_g_lstore_n (kk := 1) (fun v1 => [.ref 1, .long v1, .null]) (by decide +kernel) (by decide) (fun _ => rfl) (fun v1 ev1 => ?_)
  replace h := h v1 ev1
  refine tq_s_aload_n (kk := 0) (by decide +kernel) rfl ?_
  refine fg_1_16_1 rfl (by decide +kernel) ?_
  refine tq_if_ne (off := 20) (tgt := 42) (by decide +kernel) (by decide +kernel) (fun hc => ?_) (fun hc => ?_)
  · replace h := h.1 hc
    exact ac_X1_countHoles_42 h
  · replace h := h.2 hc
    refine tq_s_lload_n (kk := 1) (by decide +kernel) rfl ?_
    refine tq_s_ldc2 (v := (72340172838076673 : Int64)) (by decide +kernel) (by decide +kernel) ?_
    refine tq_s_ldc2 (v := (72340172838076673 : Int64)) (by decide +kernel) (by decide +kernel) ?_
    refine tq_s_aload_n (kk := 0) (by decide +kernel) rfl ?_
    refine fg_1_7_1 rfl (by decide +kernel) ?_
    refine tq_k_ic (n := 1) (v := (1 : Int32)) (by decide +kernel) kc_1 ?_
    refine tq_s_isub (by decide +kernel) ?_
    refine tq_s_lshl (by decide +kernel) ?_
    refine tq_s_lor (by decide +kernel) ?_
    refine tq_s_lor (by decide +kernel) ?_
    refine tq_g_lstore_n (kk := 1) (fun v2 => [.ref 1, .long v2, .null]) (by decide +kernel) (by decide) (fun _ => rfl) (fun v2 ev2 => ?_)
    replace h := h v2 ev2
    exact ac_X1_countHoles_42 h
def wb_J7_fill_d0a16_6 (B6 : Int32 → tq_S → Prop) (Q : tq_O → tq_S → Prop) (a1 : Int64) (a3 : Int32) (a4 : Int32) (z : tq_S) : Prop := ((a4 ≤ a3 → Q (.inl none) z) ∧ (¬ a4 ≤ a3 → vp_in a3 2304 ∧ ∀ z101 : tq_S, z101 = tq_sal z 3 (vp_updL (tq_al z 3) (Int32.toNatClampNeg a3) a1) → ∀ v102 : Int32, v102 = a3 + (1 : Int32) → B6 v102 z101))
def wc_J7_fill_d0a16_6 (Q : tq_O → tq_S → Prop) (a1 : Int64) (a3 : Int32) (a4 : Int32) (z : tq_S) : Prop := tq_lp (σ := Int32 × tq_S) (fun B s => wb_J7_fill_d0a16_6 (fun b3 z => B (b3, z)) Q a1 s.1 a4 s.2) (a3, z)
theorem ab_J7_fill_d0a16_6 {K : Nat × (Nat → Int32)} {x : Nat} {Q : tq_O → tq_S → Prop} {B6 : Int32 → tq_S → Prop} {a1 : Int64} {a3 : Int32} {a4 : Int32} {z : tq_S} (hB6 : ∀ (b3 : Int32) (z : tq_S), B6 b3 z → tq_T K 0 x mm_J7_fill_d0a16 6 [.ref 3, .long a1, .null, .int b3, .int a4] [] z Q) (h : wb_J7_fill_d0a16_6 B6 Q a1 a3 a4 z) : tq_T K 0 x mm_J7_fill_d0a16 6 [.ref 3, .long a1, .null, .int a3, .int a4] [] z Q := by
  unfold wb_J7_fill_d0a16_6 at h
  refine tq_s_iload_n (kk := 3) (by decide +kernel) rfl ?_
  refine tq_s_iload (i := 4) (by decide +kernel) rfl ?_
  refine tq_icmp_ge (off := 13) (tgt := 22) (by decide +kernel) (by decide +kernel) (fun hc => ?_) (fun hc => ?_)
  · replace h := h.1 hc
    exact tq_ret_v (by decide +kernel) rfl h
  · replace h := h.2 hc
    refine tq_s_aload_n (kk := 0) (by decide +kernel) rfl ?_
    refine tq_s_iload_n (kk := 3) (by decide +kernel) rfl ?_
    refine tq_s_lload_n (kk := 1) (by decide +kernel) rfl ?_
    refine tq_g_last (by decide +kernel) sh_3 h.1 (fun z101 ez101 => ?_)
    replace h := h.2 z101 ez101
    refine tq_g_iinc (i := 3) (fun v102 => [.ref 3, .long a1, .null, .int v102, .int a4]) (by decide +kernel) rfl (1 : Int32) kc_1 (fun _ => rfl) (fun v102 ev102 => ?_)
    replace h := h v102 ev102
    refine tq_s_goto (off := -13) (tgt := 6) (by decide +kernel) (by decide +kernel) ?_
    exact hB6 _ _ h
theorem ac_J7_fill_d0a16_6 {K : Nat × (Nat → Int32)} {x : Nat} {Q : tq_O → tq_S → Prop} {a1 : Int64} {a3 : Int32} {a4 : Int32} {z : tq_S} (h : wc_J7_fill_d0a16_6 Q a1 a3 a4 z) : tq_T K 0 x mm_J7_fill_d0a16 6 [.ref 3, .long a1, .null, .int a3, .int a4] [] z Q :=
  tq_lp_T (σ := Int32 × tq_S) (G := fun s => tq_T K 0 x mm_J7_fill_d0a16 6 [.ref 3, .long a1, .null, .int s.1, .int a4] [] s.2 Q) (fun B hB s h => ab_J7_fill_d0a16_6 (fun b3 z h => hB (b3, z) h) h) h
def wm_J7_fill_d0a16 (a1 : Int64) (z : tq_S) (Q : tq_O → tq_S → Prop) : Prop := ∀ v1 : Int32, v1 = (Int32.ofNat 2304) → wc_J7_fill_d0a16_6 Q a1 (0 : Int32) v1 z
theorem am_J7_fill_d0a16 {K : Nat × (Nat → Int32)} {x : Nat} {z : tq_S} {Q : tq_O → tq_S → Prop} {a1 : Int64} (h : wm_J7_fill_d0a16 a1 z Q) : tq_M K 0 x mm_J7_fill_d0a16 [.ref 3, .long a1] z Q := by
  unfold wm_J7_fill_d0a16 at h
  refine tq_enter (L := [.ref 3, .long a1, .null, .null, .null]) mf_J7_fill_d0a16.1 rfl rfl (by decide) ?_
  refine tq_k_ic (n := 0) (v := (0 : Int32)) (by decide +kernel) kc_0 ?_
  refine tq_s_istore_n (kk := 3) (L9 := [.ref 3, .long a1, .null, .int (0 : Int32), .null]) (by decide +kernel) (by decide) rfl ?_
  refine tq_s_aload_n (kk := 0) (by decide +kernel) rfl ?_
  refine tq_s_alen (by decide +kernel) sh_3 (by decide) ?_
  refine tq_g_istore (i := 4) (fun v1 => [.ref 3, .long a1, .null, .int (0 : Int32), .int v1]) (by decide +kernel) (by decide) (fun _ => rfl) (fun v1 ev1 => ?_)
  replace h := h v1 ev1
  exact ac_J7_fill_d0a16_6 h
def wm_J7_rangeCheck_23922 (a0 : Int32) (a1 : Int32) (a2 : Int32) (z : tq_S) (Q : tq_O → tq_S → Prop) : Prop := ((a1 ≤ a2 → ((0 ≤ a1 → ((a2 ≤ a0 → Q (.inl none) z) ∧ (¬ a2 ≤ a0 → False))) ∧ (¬ 0 ≤ a1 → False))) ∧ (¬ a1 ≤ a2 → False))
theorem am_J7_rangeCheck_23922 {K : Nat × (Nat → Int32)} {x : Nat} {z : tq_S} {Q : tq_O → tq_S → Prop} {a0 : Int32} {a1 : Int32} {a2 : Int32} (h : wm_J7_rangeCheck_23922 a0 a1 a2 z Q) : tq_M K 0 x mm_J7_rangeCheck_23922 [.int a0, .int a1, .int a2] z Q := by
  unfold wm_J7_rangeCheck_23922 at h
  refine tq_enter (L := [.int a0, .int a1, .int a2]) mf_J7_rangeCheck_23922.1 rfl rfl (by decide) ?_
  refine tq_s_iload_n (kk := 1) (by decide +kernel) rfl ?_
  refine tq_s_iload_n (kk := 2) (by decide +kernel) rfl ?_
  refine tq_icmp_le (off := 44) (tgt := 46) (by decide +kernel) (by decide +kernel) (fun hc => ?_) (fun hc => ?_)
  · replace h := h.1 hc
    refine tq_s_iload_n (kk := 1) (by decide +kernel) rfl ?_
    refine tq_if_ge (off := 12) (tgt := 59) (by decide +kernel) (by decide +kernel) (fun hc => ?_) (fun hc => ?_)
    · replace h := h.1 hc
      refine tq_s_iload_n (kk := 2) (by decide +kernel) rfl ?_
      refine tq_s_iload_n (kk := 0) (by decide +kernel) rfl ?_
      refine tq_icmp_le (off := 12) (tgt := 73) (by decide +kernel) (by decide +kernel) (fun hc => ?_) (fun hc => ?_)
      · replace h := h.1 hc
        exact tq_ret_v (by decide +kernel) rfl h
      · replace h := h.2 hc
        exact h.elim
    · replace h := h.2 hc
      exact h.elim
  · replace h := h.2 hc
    exact h.elim
def wb_J7_fill_bad5a_10 (B10 : Int32 → tq_S → Prop) (Q : tq_O → tq_S → Prop) (a2 : Int32) (a3 : Int64) (a5 : Int32) (z : tq_S) : Prop := ((a2 ≤ a5 → Q (.inl none) z) ∧ (¬ a2 ≤ a5 → vp_in a5 4608 ∧ ∀ z101 : tq_S, z101 = tq_sal z 4 (vp_updL (tq_al z 4) (Int32.toNatClampNeg a5) a3) → ∀ v102 : Int32, v102 = a5 + (1 : Int32) → B10 v102 z101))
def wc_J7_fill_bad5a_10 (Q : tq_O → tq_S → Prop) (a2 : Int32) (a3 : Int64) (a5 : Int32) (z : tq_S) : Prop := tq_lp (σ := Int32 × tq_S) (fun B s => wb_J7_fill_bad5a_10 (fun b5 z => B (b5, z)) Q a2 a3 s.1 s.2) (a5, z)
theorem ab_J7_fill_bad5a_10 {K : Nat × (Nat → Int32)} {x : Nat} {Q : tq_O → tq_S → Prop} {B10 : Int32 → tq_S → Prop} {a2 : Int32} {a3 : Int64} {a5 : Int32} {z : tq_S} (hB10 : ∀ (b5 : Int32) (z : tq_S), B10 b5 z → tq_T K 1 x mm_J7_fill_bad5a 10 [.ref 4, .null, .int a2, .long a3, .null, .int b5] [] z Q) (h : wb_J7_fill_bad5a_10 B10 Q a2 a3 a5 z) : tq_T K 1 x mm_J7_fill_bad5a 10 [.ref 4, .null, .int a2, .long a3, .null, .int a5] [] z Q := by
  unfold wb_J7_fill_bad5a_10 at h
  refine tq_s_iload (i := 5) (by decide +kernel) rfl ?_
  refine tq_s_iload_n (kk := 2) (by decide +kernel) rfl ?_
  refine tq_icmp_ge (off := 14) (tgt := 27) (by decide +kernel) (by decide +kernel) (fun hc => ?_) (fun hc => ?_)
  · replace h := h.1 hc
    exact tq_ret_v (by decide +kernel) rfl h
  · replace h := h.2 hc
    refine tq_s_aload_n (kk := 0) (by decide +kernel) rfl ?_
    refine tq_s_iload (i := 5) (by decide +kernel) rfl ?_
    refine tq_s_lload_n (kk := 3) (by decide +kernel) rfl ?_
    refine tq_g_last (by decide +kernel) sh_4 h.1 (fun z101 ez101 => ?_)
    replace h := h.2 z101 ez101
    refine tq_g_iinc (i := 5) (fun v102 => [.ref 4, .null, .int a2, .long a3, .null, .int v102]) (by decide +kernel) rfl (1 : Int32) kc_1 (fun _ => rfl) (fun v102 ev102 => ?_)
    replace h := h v102 ev102
    refine tq_s_goto (off := -14) (tgt := 10) (by decide +kernel) (by decide +kernel) ?_
    exact hB10 _ _ h
theorem ac_J7_fill_bad5a_10 {K : Nat × (Nat → Int32)} {x : Nat} {Q : tq_O → tq_S → Prop} {a2 : Int32} {a3 : Int64} {a5 : Int32} {z : tq_S} (h : wc_J7_fill_bad5a_10 Q a2 a3 a5 z) : tq_T K 1 x mm_J7_fill_bad5a 10 [.ref 4, .null, .int a2, .long a3, .null, .int a5] [] z Q :=
  tq_lp_T (σ := Int32 × tq_S) (G := fun s => tq_T K 1 x mm_J7_fill_bad5a 10 [.ref 4, .null, .int a2, .long a3, .null, .int s.1] [] s.2 Q) (fun B hB s h => ab_J7_fill_bad5a_10 (fun b5 z h => hB (b5, z) h) h) h
def wm_J7_fill_bad5a (a1 : Int32) (a2 : Int32) (a3 : Int64) (z : tq_S) (Q : tq_O → tq_S → Prop) : Prop := wm_J7_rangeCheck_23922 (Int32.ofNat 4608) a1 a2 z (tq_wv fun z1 => wc_J7_fill_bad5a_10 Q a2 a3 a1 z1)
theorem am_J7_fill_bad5a {K : Nat × (Nat → Int32)} {x : Nat} {z : tq_S} {Q : tq_O → tq_S → Prop} {a1 : Int32} {a2 : Int32} {a3 : Int64} (h : wm_J7_fill_bad5a a1 a2 a3 z Q) : tq_M K 1 x mm_J7_fill_bad5a [.ref 4, .int a1, .int a2, .long a3] z Q := by
  unfold wm_J7_fill_bad5a at h
  refine tq_enter (L := [.ref 4, .int a1, .int a2, .long a3, .null, .null]) mf_J7_fill_bad5a.1 rfl rfl (by decide) ?_
  refine tq_s_aload_n (kk := 0) (by decide +kernel) rfl ?_
  refine tq_s_alen (by decide +kernel) sh_4 (by decide) ?_
  refine tq_s_iload_n (kk := 1) (by decide +kernel) rfl ?_
  refine tq_s_iload_n (kk := 2) (by decide +kernel) rfl ?_
  refine tq_callS (as := [.int (Int32.ofNat 4608), .int a1, .int a2]) (st := []) (d1 := 0) (x1 := 0) (x2 := x) (by decide +kernel) ln_17_13 mf_J7_rangeCheck_23922 rfl (by decide) np_J7_rangeCheck_23922 rfl (Nat.le_of_ble_eq_true rfl) (by decide) (Nat.zero_add _).symm (tq_M_mono (am_J7_rangeCheck_23922 h) ?_)
  refine tq_wv_e (fun z1 h => ?_)
  refine tq_s_iload_n (kk := 1) (by decide +kernel) rfl ?_
  refine tq_s_istore (i := 5) (L9 := [.ref 4, .int a1, .int a2, .long a3, .null, .int a1]) (by decide +kernel) (by decide) rfl ?_
  exact tq_to (tq_lk1 (tq_ld1 (tq_lk1 (tq_lk1 (tq_lk1 (tq_lk1 tq_l0)))))) (ac_J7_fill_bad5a_10 h)
def wm_J9_abs_067f4 (a0 : Int64) (z : tq_S) (Q : tq_O → tq_S → Prop) : Prop := (((0 : Int64) ≤ a0 → Q (.inl (some (.long a0))) z) ∧ (¬ (0 : Int64) ≤ a0 → Q (.inl (some (.long (-a0)))) z))
theorem am_J9_abs_067f4 {K : Nat × (Nat → Int32)} {x : Nat} {z : tq_S} {Q : tq_O → tq_S → Prop} {a0 : Int64} (h : wm_J9_abs_067f4 a0 z Q) : tq_M K 0 x mm_J9_abs_067f4 [.long a0] z Q := by
  unfold wm_J9_abs_067f4 at h
  refine tq_enter (L := [.long a0, .null]) mf_J9_abs_067f4.1 rfl rfl (by decide) ?_
  refine tq_s_lload_n (kk := 0) (by decide +kernel) rfl ?_
  refine tq_k_lc (n := 0) (v := (0 : Int64)) (by decide +kernel) (by decide +kernel) ?_
  refine tq_lcmp_ge (off := 8) (tgt := 11) (by decide +kernel) (by decide +kernel) (by decide +kernel) (fun hc => ?_) (fun hc => ?_)
  · replace h := h.1 hc
    refine tq_s_lload_n (kk := 0) (by decide +kernel) rfl ?_
    exact tq_ret_l (by decide +kernel) rfl h
  · replace h := h.2 hc
    refine tq_s_lload_n (kk := 0) (by decide +kernel) rfl ?_
    refine tq_s_lneg (by decide +kernel) ?_
    refine tq_s_goto (off := 4) (tgt := 12) (by decide +kernel) (by decide +kernel) ?_
    exact tq_ret_l (by decide +kernel) rfl h
def wm_J9_max_7cf53 (a0 : Int32) (a1 : Int32) (z : tq_S) (Q : tq_O → tq_S → Prop) : Prop := ((a0 < a1 → Q (.inl (some (.int a1))) z) ∧ (¬ a0 < a1 → Q (.inl (some (.int a0))) z))
theorem am_J9_max_7cf53 {K : Nat × (Nat → Int32)} {x : Nat} {z : tq_S} {Q : tq_O → tq_S → Prop} {a0 : Int32} {a1 : Int32} (h : wm_J9_max_7cf53 a0 a1 z Q) : tq_M K 0 x mm_J9_max_7cf53 [.int a0, .int a1] z Q := by
  unfold wm_J9_max_7cf53 at h
  refine tq_enter (L := [.int a0, .int a1]) mf_J9_max_7cf53.1 rfl rfl (by decide) ?_
  refine tq_s_iload_n (kk := 0) (by decide +kernel) rfl ?_
  refine tq_s_iload_n (kk := 1) (by decide +kernel) rfl ?_
  refine tq_icmp_lt (off := 7) (tgt := 9) (by decide +kernel) (by decide +kernel) (fun hc => ?_) (fun hc => ?_)
  · replace h := h.1 hc
    refine tq_s_iload_n (kk := 1) (by decide +kernel) rfl ?_
    exact tq_ret_i (by decide +kernel) rfl h
  · replace h := h.2 hc
    refine tq_s_iload_n (kk := 0) (by decide +kernel) rfl ?_
    refine tq_s_goto (off := 4) (tgt := 10) (by decide +kernel) (by decide +kernel) ?_
    exact tq_ret_i (by decide +kernel) rfl h
def wm_X1_isPlain  (z : tq_S) (Q : tq_O → tq_S → Prop) : Prop := ((¬ (tq_fi z 66) = 0 → Q (.inl (some (.int (0 : Int32)))) z) ∧ ((tq_fi z 66) = 0 → wm_X1_countHoles z (tq_wi fun r2 z1 => ((¬ r2 = 0 → Q (.inl (some (.int (0 : Int32)))) z1) ∧ (r2 = 0 → Q (.inl (some (.int (1 : Int32)))) z1)))))
theorem am_X1_isPlain {K : Nat × (Nat → Int32)} {x : Nat} {z : tq_S} {Q : tq_O → tq_S → Prop}  (h : wm_X1_isPlain z Q) : tq_M K 4 x mm_X1_isPlain [.ref 1] z Q := by
  unfold wm_X1_isPlain at h
  refine tq_enter (L := [.ref 1]) mf_X1_isPlain.1 rfl rfl (by decide) ?_
  refine tq_s_aload_n (kk := 0) (by decide +kernel) rfl ?_
  refine fg_1_16_1 rfl (by decide +kernel) ?_
  refine tq_if_ne (off := 14) (tgt := 18) (by decide +kernel) (by decide +kernel) (fun hc => ?_) (fun hc => ?_)
  · replace h := h.1 hc
    refine tq_k_ic (n := 0) (v := (0 : Int32)) (by decide +kernel) kc_0 ?_
    exact tq_ret_z (ty := .boolean) (by decide +kernel) (by decide +kernel) rfl h
  · replace h := h.2 hc
    refine tq_s_aload_n (kk := 0) (by decide +kernel) rfl ?_
    refine tq_callV (as := []) (st := []) (d1 := 3) (x1 := 0) (x2 := x) (by decide +kernel) ln_1_80 mf_X1_countHoles rfl sh_1 rfl (by decide) np_X1_countHoles rfl (Nat.le_of_ble_eq_true rfl) (by decide) (Nat.zero_add _).symm (tq_M_mono (am_X1_countHoles h) ?_)
    refine tq_wi_e (fun r2 z1 h => ?_)
    refine tq_if_ne (off := 7) (tgt := 18) (by decide +kernel) (by decide +kernel) (fun hc => ?_) (fun hc => ?_)
    · replace h := h.1 hc
      refine tq_k_ic (n := 0) (v := (0 : Int32)) (by decide +kernel) kc_0 ?_
      exact tq_ret_z (ty := .boolean) (by decide +kernel) (by decide +kernel) rfl h
    · replace h := h.2 hc
      refine tq_k_ic (n := 1) (v := (1 : Int32)) (by decide +kernel) kc_1 ?_
      refine tq_s_goto (off := 4) (tgt := 19) (by decide +kernel) (by decide +kernel) ?_
      exact tq_ret_z (ty := .boolean) (by decide +kernel) (by decide +kernel) rfl h
def wb_J7_fill_d0a16_r1_6 (B6 : Int32 → tq_S → Prop) (Q : tq_O → tq_S → Prop) (a1 : Int64) (a3 : Int32) (a4 : Int32) (z : tq_S) : Prop := ((a4 ≤ a3 → Q (.inl none) z) ∧ (¬ a4 ≤ a3 → vp_in a3 1024 ∧ ∀ z101 : tq_S, z101 = tq_sal z 17 (vp_updL (tq_al z 17) (Int32.toNatClampNeg a3) a1) → ∀ v102 : Int32, v102 = a3 + (1 : Int32) → B6 v102 z101))
def wc_J7_fill_d0a16_r1_6 (Q : tq_O → tq_S → Prop) (a1 : Int64) (a3 : Int32) (a4 : Int32) (z : tq_S) : Prop := tq_lp (σ := Int32 × tq_S) (fun B s => wb_J7_fill_d0a16_r1_6 (fun b3 z => B (b3, z)) Q a1 s.1 a4 s.2) (a3, z)
theorem ab_J7_fill_d0a16_r1_6 {K : Nat × (Nat → Int32)} {x : Nat} {Q : tq_O → tq_S → Prop} {B6 : Int32 → tq_S → Prop} {a1 : Int64} {a3 : Int32} {a4 : Int32} {z : tq_S} (hB6 : ∀ (b3 : Int32) (z : tq_S), B6 b3 z → tq_T K 0 x mm_J7_fill_d0a16 6 [.ref 17, .long a1, .null, .int b3, .int a4] [] z Q) (h : wb_J7_fill_d0a16_r1_6 B6 Q a1 a3 a4 z) : tq_T K 0 x mm_J7_fill_d0a16 6 [.ref 17, .long a1, .null, .int a3, .int a4] [] z Q := by
  unfold wb_J7_fill_d0a16_r1_6 at h
  refine tq_s_iload_n (kk := 3) (by decide +kernel) rfl ?_
  refine tq_s_iload (i := 4) (by decide +kernel) rfl ?_
  refine tq_icmp_ge (off := 13) (tgt := 22) (by decide +kernel) (by decide +kernel) (fun hc => ?_) (fun hc => ?_)
  · replace h := h.1 hc
    exact tq_ret_v (by decide +kernel) rfl h
  · replace h := h.2 hc
    refine tq_s_aload_n (kk := 0) (by decide +kernel) rfl ?_
    refine tq_s_iload_n (kk := 3) (by decide +kernel) rfl ?_
    refine tq_s_lload_n (kk := 1) (by decide +kernel) rfl ?_
    refine tq_g_last (by decide +kernel) sh_17 h.1 (fun z101 ez101 => ?_)
    replace h := h.2 z101 ez101
    refine tq_g_iinc (i := 3) (fun v102 => [.ref 17, .long a1, .null, .int v102, .int a4]) (by decide +kernel) rfl (1 : Int32) kc_1 (fun _ => rfl) (fun v102 ev102 => ?_)
    replace h := h v102 ev102
    refine tq_s_goto (off := -13) (tgt := 6) (by decide +kernel) (by decide +kernel) ?_
    exact hB6 _ _ h
theorem ac_J7_fill_d0a16_r1_6 {K : Nat × (Nat → Int32)} {x : Nat} {Q : tq_O → tq_S → Prop} {a1 : Int64} {a3 : Int32} {a4 : Int32} {z : tq_S} (h : wc_J7_fill_d0a16_r1_6 Q a1 a3 a4 z) : tq_T K 0 x mm_J7_fill_d0a16 6 [.ref 17, .long a1, .null, .int a3, .int a4] [] z Q :=
  tq_lp_T (σ := Int32 × tq_S) (G := fun s => tq_T K 0 x mm_J7_fill_d0a16 6 [.ref 17, .long a1, .null, .int s.1, .int a4] [] s.2 Q) (fun B hB s h => ab_J7_fill_d0a16_r1_6 (fun b3 z h => hB (b3, z) h) h) h
def wm_J7_fill_d0a16_r1 (a1 : Int64) (z : tq_S) (Q : tq_O → tq_S → Prop) : Prop := ∀ v1 : Int32, v1 = (Int32.ofNat 1024) → wc_J7_fill_d0a16_r1_6 Q a1 (0 : Int32) v1 z
theorem am_J7_fill_d0a16_r1 {K : Nat × (Nat → Int32)} {x : Nat} {z : tq_S} {Q : tq_O → tq_S → Prop} {a1 : Int64} (h : wm_J7_fill_d0a16_r1 a1 z Q) : tq_M K 0 x mm_J7_fill_d0a16 [.ref 17, .long a1] z Q := by
  unfold wm_J7_fill_d0a16_r1 at h
  refine tq_enter (L := [.ref 17, .long a1, .null, .null, .null]) mf_J7_fill_d0a16.1 rfl rfl (by decide) ?_
  refine tq_k_ic (n := 0) (v := (0 : Int32)) (by decide +kernel) kc_0 ?_
  refine tq_s_istore_n (kk := 3) (L9 := [.ref 17, .long a1, .null, .int (0 : Int32), .null]) (by decide +kernel) (by decide) rfl ?_
  refine tq_s_aload_n (kk := 0) (by decide +kernel) rfl ?_
  refine tq_s_alen (by decide +kernel) sh_17 (by decide) ?_
  refine tq_g_istore (i := 4) (fun v1 => [.ref 17, .long a1, .null, .int (0 : Int32), .int v1]) (by decide +kernel) (by decide) (fun _ => rfl) (fun v1 ev1 => ?_)
  replace h := h v1 ev1
  exact ac_J7_fill_d0a16_r1_6 h
def wm_J9_floorMod_f86c9 (a0 : Int64) (a2 : Int64) (z : tq_S) (Q : tq_O → tq_S → Prop) : Prop := (¬ a2 = 0) ∧ ∀ v1 : Int64, v1 = (a0 - a0 / a2 * a2) → (((0 : Int64) ≤ (a0 ^^^ a2) → Q (.inl (some (.long v1))) z) ∧ (¬ (0 : Int64) ≤ (a0 ^^^ a2) → ((v1 = (0 : Int64) → Q (.inl (some (.long v1))) z) ∧ (¬ v1 = (0 : Int64) → Q (.inl (some (.long (v1 + a2)))) z))))
theorem am_J9_floorMod_f86c9 {K : Nat × (Nat → Int32)} {x : Nat} {z : tq_S} {Q : tq_O → tq_S → Prop} {a0 : Int64} {a2 : Int64} (h : wm_J9_floorMod_f86c9 a0 a2 z Q) : tq_M K 0 x mm_J9_floorMod_f86c9 [.long a0, .long a2] z Q := by
  unfold wm_J9_floorMod_f86c9 at h
  refine tq_enter (L := [.long a0, .null, .long a2, .null, .null, .null]) mf_J9_floorMod_f86c9.1 rfl rfl (by decide) ?_
  refine tq_s_lload_n (kk := 0) (by decide +kernel) rfl ?_
  refine tq_s_lload_n (kk := 2) (by decide +kernel) rfl ?_
  refine tq_s_lrem (by decide +kernel) h.1 ?_
  replace h := h.2
  refine tq_g_lstore (i := 4) (fun v1 => [.long a0, .null, .long a2, .null, .long v1, .null]) (by decide +kernel) (by decide) (fun _ => rfl) (fun v1 ev1 => ?_)
  replace h := h v1 ev1
  refine tq_s_lload_n (kk := 0) (by decide +kernel) rfl ?_
  refine tq_s_lload_n (kk := 2) (by decide +kernel) rfl ?_
  refine tq_s_lxor (by decide +kernel) ?_
  refine tq_k_lc (n := 0) (v := (0 : Int64)) (by decide +kernel) (by decide +kernel) ?_
  refine tq_lcmp_ge (off := 15) (tgt := 25) (by decide +kernel) (by decide +kernel) (by decide +kernel) (fun hc => ?_) (fun hc => ?_)
  · replace h := h.1 hc
    refine tq_s_lload (i := 4) (by decide +kernel) rfl ?_
    exact tq_ret_l (by decide +kernel) rfl h
  · replace h := h.2 hc
    refine tq_s_lload (i := 4) (by decide +kernel) rfl ?_
    refine tq_k_lc (n := 0) (v := (0 : Int64)) (by decide +kernel) (by decide +kernel) ?_
    refine tq_lcmp_eq (off := 8) (tgt := 25) (by decide +kernel) (by decide +kernel) (by decide +kernel) (fun hc => ?_) (fun hc => ?_)
    · replace h := h.1 hc
      refine tq_s_lload (i := 4) (by decide +kernel) rfl ?_
      exact tq_ret_l (by decide +kernel) rfl h
    · replace h := h.2 hc
      refine tq_s_lload (i := 4) (by decide +kernel) rfl ?_
      refine tq_s_lload_n (kk := 2) (by decide +kernel) rfl ?_
      refine tq_s_ladd (by decide +kernel) ?_
      exact tq_ret_l (by decide +kernel) rfl h
def wm_X1_rightOf (a1 : Int32) (z : tq_S) (Q : tq_O → tq_S → Prop) : Prop := (((tq_fi z 64) ≤ (a1 + (1 : Int32)) → (((tq_fi z 66) = 0 → Q (.inl (some (.int (-1 : Int32)))) z) ∧ (¬ (tq_fi z 66) = 0 → Q (.inl (some (.int (0 : Int32)))) z))) ∧ (¬ (tq_fi z 64) ≤ (a1 + (1 : Int32)) → Q (.inl (some (.int (a1 + (1 : Int32))))) z))
theorem am_X1_rightOf {K : Nat × (Nat → Int32)} {x : Nat} {z : tq_S} {Q : tq_O → tq_S → Prop} {a1 : Int32} (h : wm_X1_rightOf a1 z Q) : tq_M K 0 x mm_X1_rightOf [.ref 1, .int a1] z Q := by
  unfold wm_X1_rightOf at h
  refine tq_enter (L := [.ref 1, .int a1]) mf_X1_rightOf.1 rfl rfl (by decide) ?_
  refine tq_s_iload_n (kk := 1) (by decide +kernel) rfl ?_
  refine tq_k_ic (n := 1) (v := (1 : Int32)) (by decide +kernel) kc_1 ?_
  refine tq_s_iadd (by decide +kernel) ?_
  refine tq_s_aload_n (kk := 0) (by decide +kernel) rfl ?_
  refine fg_1_7_1 rfl (by decide +kernel) ?_
  refine tq_icmp_ge (off := 7) (tgt := 14) (by decide +kernel) (by decide +kernel) (fun hc => ?_) (fun hc => ?_)
  · replace h := h.1 hc
    refine tq_s_aload_n (kk := 0) (by decide +kernel) rfl ?_
    refine fg_1_16_1 rfl (by decide +kernel) ?_
    refine tq_if_eq (off := 7) (tgt := 25) (by decide +kernel) (by decide +kernel) (fun hc => ?_) (fun hc => ?_)
    · replace h := h.1 hc
      refine tq_k_ic (n := -1) (v := (-1 : Int32)) (by decide +kernel) kc_m1 ?_
      exact tq_ret_i (by decide +kernel) rfl h
    · replace h := h.2 hc
      refine tq_k_ic (n := 0) (v := (0 : Int32)) (by decide +kernel) kc_0 ?_
      refine tq_s_goto (off := 4) (tgt := 26) (by decide +kernel) (by decide +kernel) ?_
      exact tq_ret_i (by decide +kernel) rfl h
  · replace h := h.2 hc
    refine tq_s_iload_n (kk := 1) (by decide +kernel) rfl ?_
    refine tq_k_ic (n := 1) (v := (1 : Int32)) (by decide +kernel) kc_1 ?_
    refine tq_s_iadd (by decide +kernel) ?_
    exact tq_ret_i (by decide +kernel) rfl h
def wm_X1_isPiece (a1 : Int32) (a2 : Int32) (a3 : Int32) (z : tq_S) (Q : tq_O → tq_S → Prop) : Prop := wm_X1_holds a1 a2 z (tq_wi fun r2 z1 => ((¬ r2 = 0 → ((a3 = 0 → wm_X1_holds a1 (a2 + (1 : Int32)) z1 (tq_wi fun r4 z3 => tq_nz r4 ∧ Q (.inl (some (.int r4))) z3)) ∧ (¬ a3 = 0 → wm_X1_rightOf a1 z1 (tq_wi fun r6 z5 => wm_X1_holds r6 a2 z5 (tq_wi fun r8 z7 => tq_nz r8 ∧ Q (.inl (some (.int r8))) z7))))) ∧ (r2 = 0 → Q (.inl (some (.int (0 : Int32)))) z1)))
theorem am_X1_isPiece {K : Nat × (Nat → Int32)} {x : Nat} {z : tq_S} {Q : tq_O → tq_S → Prop} {a1 : Int32} {a2 : Int32} {a3 : Int32} (h : wm_X1_isPiece a1 a2 a3 z Q) : tq_M K 1 x mm_X1_isPiece [.ref 1, .int a1, .int a2, .int a3] z Q := by
  unfold wm_X1_isPiece at h
  refine tq_enter (L := [.ref 1, .int a1, .int a2, .int a3]) mf_X1_isPiece.1 rfl rfl (by decide) ?_
  refine tq_s_aload_n (kk := 0) (by decide +kernel) rfl ?_
  refine tq_s_iload_n (kk := 1) (by decide +kernel) rfl ?_
  refine tq_s_iload_n (kk := 2) (by decide +kernel) rfl ?_
  refine tq_callV (as := [.int a1, .int a2]) (st := []) (d1 := 0) (x1 := 0) (x2 := x) (by decide +kernel) ln_1_47 mf_X1_holds rfl sh_1 rfl (by decide) np_X1_holds rfl (Nat.le_of_ble_eq_true rfl) (by decide) (Nat.zero_add _).symm (tq_M_mono (am_X1_holds h) ?_)
  refine tq_wi_e (fun r2 z1 h => ?_)
  refine tq_if_ne (off := 5) (tgt := 11) (by decide +kernel) (by decide +kernel) (fun hc => ?_) (fun hc => ?_)
  · replace h := h.1 hc
    refine tq_s_iload_n (kk := 3) (by decide +kernel) rfl ?_
    refine tq_if_eq (off := 16) (tgt := 28) (by decide +kernel) (by decide +kernel) (fun hc => ?_) (fun hc => ?_)
    · replace h := h.1 hc
      refine tq_s_aload_n (kk := 0) (by decide +kernel) rfl ?_
      refine tq_s_iload_n (kk := 1) (by decide +kernel) rfl ?_
      refine tq_s_iload_n (kk := 2) (by decide +kernel) rfl ?_
      refine tq_k_ic (n := 1) (v := (1 : Int32)) (by decide +kernel) kc_1 ?_
      refine tq_s_iadd (by decide +kernel) ?_
      refine tq_callV (as := [.int a1, .int (a2 + (1 : Int32))]) (st := []) (d1 := 0) (x1 := 0) (x2 := x) (by decide +kernel) ln_1_47 mf_X1_holds rfl sh_1 rfl (by decide) np_X1_holds rfl (Nat.le_of_ble_eq_true rfl) (by decide) (Nat.zero_add _).symm (tq_M_mono (am_X1_holds h) ?_)
      refine tq_wi_e (fun r4 z3 h => ?_)
      exact tq_ret_z (ty := .boolean) (by decide +kernel) (tq_nz_f h.1).1 rfl h.2
    · replace h := h.2 hc
      refine tq_s_aload_n (kk := 0) (by decide +kernel) rfl ?_
      refine tq_s_aload_n (kk := 0) (by decide +kernel) rfl ?_
      refine tq_s_iload_n (kk := 1) (by decide +kernel) rfl ?_
      refine tq_callV (as := [.int a1]) (st := [.ref 1]) (d1 := 0) (x1 := 0) (x2 := x) (by decide +kernel) ln_1_51 mf_X1_rightOf rfl sh_1 rfl (by decide) np_X1_rightOf rfl (Nat.le_of_ble_eq_true rfl) (by decide) (Nat.zero_add _).symm (tq_M_mono (am_X1_rightOf h) ?_)
      refine tq_wi_e (fun r6 z5 h => ?_)
      refine tq_s_iload_n (kk := 2) (by decide +kernel) rfl ?_
      refine tq_callV (as := [.int r6, .int a2]) (st := []) (d1 := 0) (x1 := 0) (x2 := x) (by decide +kernel) ln_1_47 mf_X1_holds rfl sh_1 rfl (by decide) np_X1_holds rfl (Nat.le_of_ble_eq_true rfl) (by decide) (Nat.zero_add _).symm (tq_M_mono (am_X1_holds h) ?_)
      refine tq_wi_e (fun r8 z7 h => ?_)
      refine tq_s_goto (off := 11) (tgt := 36) (by decide +kernel) (by decide +kernel) ?_
      exact tq_ret_z (ty := .boolean) (by decide +kernel) (tq_nz_f h.1).1 rfl h.2
  · replace h := h.2 hc
    refine tq_k_ic (n := 0) (v := (0 : Int32)) (by decide +kernel) kc_0 ?_
    exact tq_ret_z (ty := .boolean) (by decide +kernel) (by decide +kernel) rfl h
def wb_J7_fill_d0a16_r2_6 (B6 : Int32 → tq_S → Prop) (Q : tq_O → tq_S → Prop) (a1 : Int64) (a3 : Int32) (a4 : Int32) (z : tq_S) : Prop := ((a4 ≤ a3 → Q (.inl none) z) ∧ (¬ a4 ≤ a3 → vp_in a3 128 ∧ ∀ z101 : tq_S, z101 = tq_sal z 7 (vp_updL (tq_al z 7) (Int32.toNatClampNeg a3) a1) → ∀ v102 : Int32, v102 = a3 + (1 : Int32) → B6 v102 z101))
def wc_J7_fill_d0a16_r2_6 (Q : tq_O → tq_S → Prop) (a1 : Int64) (a3 : Int32) (a4 : Int32) (z : tq_S) : Prop := tq_lp (σ := Int32 × tq_S) (fun B s => wb_J7_fill_d0a16_r2_6 (fun b3 z => B (b3, z)) Q a1 s.1 a4 s.2) (a3, z)
theorem ab_J7_fill_d0a16_r2_6 {K : Nat × (Nat → Int32)} {x : Nat} {Q : tq_O → tq_S → Prop} {B6 : Int32 → tq_S → Prop} {a1 : Int64} {a3 : Int32} {a4 : Int32} {z : tq_S} (hB6 : ∀ (b3 : Int32) (z : tq_S), B6 b3 z → tq_T K 0 x mm_J7_fill_d0a16 6 [.ref 7, .long a1, .null, .int b3, .int a4] [] z Q) (h : wb_J7_fill_d0a16_r2_6 B6 Q a1 a3 a4 z) : tq_T K 0 x mm_J7_fill_d0a16 6 [.ref 7, .long a1, .null, .int a3, .int a4] [] z Q := by
  unfold wb_J7_fill_d0a16_r2_6 at h
  refine tq_s_iload_n (kk := 3) (by decide +kernel) rfl ?_
  refine tq_s_iload (i := 4) (by decide +kernel) rfl ?_
  refine tq_icmp_ge (off := 13) (tgt := 22) (by decide +kernel) (by decide +kernel) (fun hc => ?_) (fun hc => ?_)
  · replace h := h.1 hc
    exact tq_ret_v (by decide +kernel) rfl h
  · replace h := h.2 hc
    refine tq_s_aload_n (kk := 0) (by decide +kernel) rfl ?_
    refine tq_s_iload_n (kk := 3) (by decide +kernel) rfl ?_
    refine tq_s_lload_n (kk := 1) (by decide +kernel) rfl ?_
    refine tq_g_last (by decide +kernel) sh_7 h.1 (fun z101 ez101 => ?_)
    replace h := h.2 z101 ez101
    refine tq_g_iinc (i := 3) (fun v102 => [.ref 7, .long a1, .null, .int v102, .int a4]) (by decide +kernel) rfl (1 : Int32) kc_1 (fun _ => rfl) (fun v102 ev102 => ?_)
    replace h := h v102 ev102
    refine tq_s_goto (off := -13) (tgt := 6) (by decide +kernel) (by decide +kernel) ?_
    exact hB6 _ _ h
theorem ac_J7_fill_d0a16_r2_6 {K : Nat × (Nat → Int32)} {x : Nat} {Q : tq_O → tq_S → Prop} {a1 : Int64} {a3 : Int32} {a4 : Int32} {z : tq_S} (h : wc_J7_fill_d0a16_r2_6 Q a1 a3 a4 z) : tq_T K 0 x mm_J7_fill_d0a16 6 [.ref 7, .long a1, .null, .int a3, .int a4] [] z Q :=
  tq_lp_T (σ := Int32 × tq_S) (G := fun s => tq_T K 0 x mm_J7_fill_d0a16 6 [.ref 7, .long a1, .null, .int s.1, .int a4] [] s.2 Q) (fun B hB s h => ab_J7_fill_d0a16_r2_6 (fun b3 z h => hB (b3, z) h) h) h
def wm_J7_fill_d0a16_r2 (a1 : Int64) (z : tq_S) (Q : tq_O → tq_S → Prop) : Prop := ∀ v1 : Int32, v1 = (Int32.ofNat 128) → wc_J7_fill_d0a16_r2_6 Q a1 (0 : Int32) v1 z
theorem am_J7_fill_d0a16_r2 {K : Nat × (Nat → Int32)} {x : Nat} {z : tq_S} {Q : tq_O → tq_S → Prop} {a1 : Int64} (h : wm_J7_fill_d0a16_r2 a1 z Q) : tq_M K 0 x mm_J7_fill_d0a16 [.ref 7, .long a1] z Q := by
  unfold wm_J7_fill_d0a16_r2 at h
  refine tq_enter (L := [.ref 7, .long a1, .null, .null, .null]) mf_J7_fill_d0a16.1 rfl rfl (by decide) ?_
  refine tq_k_ic (n := 0) (v := (0 : Int32)) (by decide +kernel) kc_0 ?_
  refine tq_s_istore_n (kk := 3) (L9 := [.ref 7, .long a1, .null, .int (0 : Int32), .null]) (by decide +kernel) (by decide) rfl ?_
  refine tq_s_aload_n (kk := 0) (by decide +kernel) rfl ?_
  refine tq_s_alen (by decide +kernel) sh_7 (by decide) ?_
  refine tq_g_istore (i := 4) (fun v1 => [.ref 7, .long a1, .null, .int (0 : Int32), .int v1]) (by decide +kernel) (by decide) (fun _ => rfl) (fun v1 ev1 => ?_)
  replace h := h v1 ev1
  exact ac_J7_fill_d0a16_r2_6 h
def wb_J7_fill_d0a16_r3_6 (B6 : Int32 → tq_S → Prop) (Q : tq_O → tq_S → Prop) (a1 : Int64) (a3 : Int32) (a4 : Int32) (z : tq_S) : Prop := ((a4 ≤ a3 → Q (.inl none) z) ∧ (¬ a4 ≤ a3 → vp_in a3 512 ∧ ∀ z101 : tq_S, z101 = tq_sal z 5 (vp_updL (tq_al z 5) (Int32.toNatClampNeg a3) a1) → ∀ v102 : Int32, v102 = a3 + (1 : Int32) → B6 v102 z101))
def wc_J7_fill_d0a16_r3_6 (Q : tq_O → tq_S → Prop) (a1 : Int64) (a3 : Int32) (a4 : Int32) (z : tq_S) : Prop := tq_lp (σ := Int32 × tq_S) (fun B s => wb_J7_fill_d0a16_r3_6 (fun b3 z => B (b3, z)) Q a1 s.1 a4 s.2) (a3, z)
theorem ab_J7_fill_d0a16_r3_6 {K : Nat × (Nat → Int32)} {x : Nat} {Q : tq_O → tq_S → Prop} {B6 : Int32 → tq_S → Prop} {a1 : Int64} {a3 : Int32} {a4 : Int32} {z : tq_S} (hB6 : ∀ (b3 : Int32) (z : tq_S), B6 b3 z → tq_T K 0 x mm_J7_fill_d0a16 6 [.ref 5, .long a1, .null, .int b3, .int a4] [] z Q) (h : wb_J7_fill_d0a16_r3_6 B6 Q a1 a3 a4 z) : tq_T K 0 x mm_J7_fill_d0a16 6 [.ref 5, .long a1, .null, .int a3, .int a4] [] z Q := by
  unfold wb_J7_fill_d0a16_r3_6 at h
  refine tq_s_iload_n (kk := 3) (by decide +kernel) rfl ?_
  refine tq_s_iload (i := 4) (by decide +kernel) rfl ?_
  refine tq_icmp_ge (off := 13) (tgt := 22) (by decide +kernel) (by decide +kernel) (fun hc => ?_) (fun hc => ?_)
  · replace h := h.1 hc
    exact tq_ret_v (by decide +kernel) rfl h
  · replace h := h.2 hc
    refine tq_s_aload_n (kk := 0) (by decide +kernel) rfl ?_
    refine tq_s_iload_n (kk := 3) (by decide +kernel) rfl ?_
    refine tq_s_lload_n (kk := 1) (by decide +kernel) rfl ?_
    refine tq_g_last (by decide +kernel) sh_5 h.1 (fun z101 ez101 => ?_)
    replace h := h.2 z101 ez101
    refine tq_g_iinc (i := 3) (fun v102 => [.ref 5, .long a1, .null, .int v102, .int a4]) (by decide +kernel) rfl (1 : Int32) kc_1 (fun _ => rfl) (fun v102 ev102 => ?_)
    replace h := h v102 ev102
    refine tq_s_goto (off := -13) (tgt := 6) (by decide +kernel) (by decide +kernel) ?_
    exact hB6 _ _ h
theorem ac_J7_fill_d0a16_r3_6 {K : Nat × (Nat → Int32)} {x : Nat} {Q : tq_O → tq_S → Prop} {a1 : Int64} {a3 : Int32} {a4 : Int32} {z : tq_S} (h : wc_J7_fill_d0a16_r3_6 Q a1 a3 a4 z) : tq_T K 0 x mm_J7_fill_d0a16 6 [.ref 5, .long a1, .null, .int a3, .int a4] [] z Q :=
  tq_lp_T (σ := Int32 × tq_S) (G := fun s => tq_T K 0 x mm_J7_fill_d0a16 6 [.ref 5, .long a1, .null, .int s.1, .int a4] [] s.2 Q) (fun B hB s h => ab_J7_fill_d0a16_r3_6 (fun b3 z h => hB (b3, z) h) h) h
def wm_J7_fill_d0a16_r3 (a1 : Int64) (z : tq_S) (Q : tq_O → tq_S → Prop) : Prop := ∀ v1 : Int32, v1 = (Int32.ofNat 512) → wc_J7_fill_d0a16_r3_6 Q a1 (0 : Int32) v1 z
theorem am_J7_fill_d0a16_r3 {K : Nat × (Nat → Int32)} {x : Nat} {z : tq_S} {Q : tq_O → tq_S → Prop} {a1 : Int64} (h : wm_J7_fill_d0a16_r3 a1 z Q) : tq_M K 0 x mm_J7_fill_d0a16 [.ref 5, .long a1] z Q := by
  unfold wm_J7_fill_d0a16_r3 at h
  refine tq_enter (L := [.ref 5, .long a1, .null, .null, .null]) mf_J7_fill_d0a16.1 rfl rfl (by decide) ?_
  refine tq_k_ic (n := 0) (v := (0 : Int32)) (by decide +kernel) kc_0 ?_
  refine tq_s_istore_n (kk := 3) (L9 := [.ref 5, .long a1, .null, .int (0 : Int32), .null]) (by decide +kernel) (by decide) rfl ?_
  refine tq_s_aload_n (kk := 0) (by decide +kernel) rfl ?_
  refine tq_s_alen (by decide +kernel) sh_5 (by decide) ?_
  refine tq_g_istore (i := 4) (fun v1 => [.ref 5, .long a1, .null, .int (0 : Int32), .int v1]) (by decide +kernel) (by decide) (fun _ => rfl) (fun v1 ev1 => ?_)
  replace h := h v1 ev1
  exact ac_J7_fill_d0a16_r3_6 h
def wb_J7_fill_d0a16_r4_6 (B6 : Int32 → tq_S → Prop) (Q : tq_O → tq_S → Prop) (a1 : Int64) (a3 : Int32) (a4 : Int32) (z : tq_S) : Prop := ((a4 ≤ a3 → Q (.inl none) z) ∧ (¬ a4 ≤ a3 → vp_in a3 512 ∧ ∀ z101 : tq_S, z101 = tq_sal z 6 (vp_updL (tq_al z 6) (Int32.toNatClampNeg a3) a1) → ∀ v102 : Int32, v102 = a3 + (1 : Int32) → B6 v102 z101))
def wc_J7_fill_d0a16_r4_6 (Q : tq_O → tq_S → Prop) (a1 : Int64) (a3 : Int32) (a4 : Int32) (z : tq_S) : Prop := tq_lp (σ := Int32 × tq_S) (fun B s => wb_J7_fill_d0a16_r4_6 (fun b3 z => B (b3, z)) Q a1 s.1 a4 s.2) (a3, z)
theorem ab_J7_fill_d0a16_r4_6 {K : Nat × (Nat → Int32)} {x : Nat} {Q : tq_O → tq_S → Prop} {B6 : Int32 → tq_S → Prop} {a1 : Int64} {a3 : Int32} {a4 : Int32} {z : tq_S} (hB6 : ∀ (b3 : Int32) (z : tq_S), B6 b3 z → tq_T K 0 x mm_J7_fill_d0a16 6 [.ref 6, .long a1, .null, .int b3, .int a4] [] z Q) (h : wb_J7_fill_d0a16_r4_6 B6 Q a1 a3 a4 z) : tq_T K 0 x mm_J7_fill_d0a16 6 [.ref 6, .long a1, .null, .int a3, .int a4] [] z Q := by
  unfold wb_J7_fill_d0a16_r4_6 at h
  refine tq_s_iload_n (kk := 3) (by decide +kernel) rfl ?_
  refine tq_s_iload (i := 4) (by decide +kernel) rfl ?_
  refine tq_icmp_ge (off := 13) (tgt := 22) (by decide +kernel) (by decide +kernel) (fun hc => ?_) (fun hc => ?_)
  · replace h := h.1 hc
    exact tq_ret_v (by decide +kernel) rfl h
  · replace h := h.2 hc
    refine tq_s_aload_n (kk := 0) (by decide +kernel) rfl ?_
    refine tq_s_iload_n (kk := 3) (by decide +kernel) rfl ?_
    refine tq_s_lload_n (kk := 1) (by decide +kernel) rfl ?_
    refine tq_g_last (by decide +kernel) sh_6 h.1 (fun z101 ez101 => ?_)
    replace h := h.2 z101 ez101
    refine tq_g_iinc (i := 3) (fun v102 => [.ref 6, .long a1, .null, .int v102, .int a4]) (by decide +kernel) rfl (1 : Int32) kc_1 (fun _ => rfl) (fun v102 ev102 => ?_)
    replace h := h v102 ev102
    refine tq_s_goto (off := -13) (tgt := 6) (by decide +kernel) (by decide +kernel) ?_
    exact hB6 _ _ h
theorem ac_J7_fill_d0a16_r4_6 {K : Nat × (Nat → Int32)} {x : Nat} {Q : tq_O → tq_S → Prop} {a1 : Int64} {a3 : Int32} {a4 : Int32} {z : tq_S} (h : wc_J7_fill_d0a16_r4_6 Q a1 a3 a4 z) : tq_T K 0 x mm_J7_fill_d0a16 6 [.ref 6, .long a1, .null, .int a3, .int a4] [] z Q :=
  tq_lp_T (σ := Int32 × tq_S) (G := fun s => tq_T K 0 x mm_J7_fill_d0a16 6 [.ref 6, .long a1, .null, .int s.1, .int a4] [] s.2 Q) (fun B hB s h => ab_J7_fill_d0a16_r4_6 (fun b3 z h => hB (b3, z) h) h) h
def wm_J7_fill_d0a16_r4 (a1 : Int64) (z : tq_S) (Q : tq_O → tq_S → Prop) : Prop := ∀ v1 : Int32, v1 = (Int32.ofNat 512) → wc_J7_fill_d0a16_r4_6 Q a1 (0 : Int32) v1 z
theorem am_J7_fill_d0a16_r4 {K : Nat × (Nat → Int32)} {x : Nat} {z : tq_S} {Q : tq_O → tq_S → Prop} {a1 : Int64} (h : wm_J7_fill_d0a16_r4 a1 z Q) : tq_M K 0 x mm_J7_fill_d0a16 [.ref 6, .long a1] z Q := by
  unfold wm_J7_fill_d0a16_r4 at h
  refine tq_enter (L := [.ref 6, .long a1, .null, .null, .null]) mf_J7_fill_d0a16.1 rfl rfl (by decide) ?_
  refine tq_k_ic (n := 0) (v := (0 : Int32)) (by decide +kernel) kc_0 ?_
  refine tq_s_istore_n (kk := 3) (L9 := [.ref 6, .long a1, .null, .int (0 : Int32), .null]) (by decide +kernel) (by decide) rfl ?_
  refine tq_s_aload_n (kk := 0) (by decide +kernel) rfl ?_
  refine tq_s_alen (by decide +kernel) sh_6 (by decide) ?_
  refine tq_g_istore (i := 4) (fun v1 => [.ref 6, .long a1, .null, .int (0 : Int32), .int v1]) (by decide +kernel) (by decide) (fun _ => rfl) (fun v1 ev1 => ?_)
  replace h := h v1 ev1
  exact ac_J7_fill_d0a16_r4_6 h
def wb_J7_fill_53178_5 (B5 : Int32 → tq_S → Prop) (Q : tq_O → tq_S → Prop) (a1 : Int32) (a2 : Int32) (a3 : Int32) (z : tq_S) : Prop := ((a3 ≤ a2 → Q (.inl none) z) ∧ (¬ a3 ≤ a2 → vp_in a2 81 ∧ ∀ z101 : tq_S, z101 = tq_sai z 14 (upd (tq_ai z 14) (Int32.toNatClampNeg a2) a1) → ∀ v102 : Int32, v102 = a2 + (1 : Int32) → B5 v102 z101))
def wc_J7_fill_53178_5 (Q : tq_O → tq_S → Prop) (a1 : Int32) (a2 : Int32) (a3 : Int32) (z : tq_S) : Prop := tq_lp (σ := Int32 × tq_S) (fun B s => wb_J7_fill_53178_5 (fun b2 z => B (b2, z)) Q a1 s.1 a3 s.2) (a2, z)
theorem ab_J7_fill_53178_5 {K : Nat × (Nat → Int32)} {x : Nat} {Q : tq_O → tq_S → Prop} {B5 : Int32 → tq_S → Prop} {a1 : Int32} {a2 : Int32} {a3 : Int32} {z : tq_S} (hB5 : ∀ (b2 : Int32) (z : tq_S), B5 b2 z → tq_T K 0 x mm_J7_fill_53178 5 [.ref 14, .int a1, .int b2, .int a3] [] z Q) (h : wb_J7_fill_53178_5 B5 Q a1 a2 a3 z) : tq_T K 0 x mm_J7_fill_53178 5 [.ref 14, .int a1, .int a2, .int a3] [] z Q := by
  unfold wb_J7_fill_53178_5 at h
  refine tq_s_iload_n (kk := 2) (by decide +kernel) rfl ?_
  refine tq_s_iload_n (kk := 3) (by decide +kernel) rfl ?_
  refine tq_icmp_ge (off := 13) (tgt := 20) (by decide +kernel) (by decide +kernel) (fun hc => ?_) (fun hc => ?_)
  · replace h := h.1 hc
    exact tq_ret_v (by decide +kernel) rfl h
  · replace h := h.2 hc
    refine tq_s_aload_n (kk := 0) (by decide +kernel) rfl ?_
    refine tq_s_iload_n (kk := 2) (by decide +kernel) rfl ?_
    refine tq_s_iload_n (kk := 1) (by decide +kernel) rfl ?_
    refine tq_g_iast (by decide +kernel) sh_14 h.1 (fun z101 ez101 => ?_)
    replace h := h.2 z101 ez101
    refine tq_g_iinc (i := 2) (fun v102 => [.ref 14, .int a1, .int v102, .int a3]) (by decide +kernel) rfl (1 : Int32) kc_1 (fun _ => rfl) (fun v102 ev102 => ?_)
    replace h := h v102 ev102
    refine tq_s_goto (off := -12) (tgt := 5) (by decide +kernel) (by decide +kernel) ?_
    exact hB5 _ _ h
theorem ac_J7_fill_53178_5 {K : Nat × (Nat → Int32)} {x : Nat} {Q : tq_O → tq_S → Prop} {a1 : Int32} {a2 : Int32} {a3 : Int32} {z : tq_S} (h : wc_J7_fill_53178_5 Q a1 a2 a3 z) : tq_T K 0 x mm_J7_fill_53178 5 [.ref 14, .int a1, .int a2, .int a3] [] z Q :=
  tq_lp_T (σ := Int32 × tq_S) (G := fun s => tq_T K 0 x mm_J7_fill_53178 5 [.ref 14, .int a1, .int s.1, .int a3] [] s.2 Q) (fun B hB s h => ab_J7_fill_53178_5 (fun b2 z h => hB (b2, z) h) h) h
def wm_J7_fill_53178 (a1 : Int32) (z : tq_S) (Q : tq_O → tq_S → Prop) : Prop := ∀ v1 : Int32, v1 = (Int32.ofNat 81) → wc_J7_fill_53178_5 Q a1 (0 : Int32) v1 z
theorem am_J7_fill_53178 {K : Nat × (Nat → Int32)} {x : Nat} {z : tq_S} {Q : tq_O → tq_S → Prop} {a1 : Int32} (h : wm_J7_fill_53178 a1 z Q) : tq_M K 0 x mm_J7_fill_53178 [.ref 14, .int a1] z Q := by
  unfold wm_J7_fill_53178 at h
  refine tq_enter (L := [.ref 14, .int a1, .null, .null]) mf_J7_fill_53178.1 rfl rfl (by decide) ?_
  refine tq_k_ic (n := 0) (v := (0 : Int32)) (by decide +kernel) kc_0 ?_
  refine tq_s_istore_n (kk := 2) (L9 := [.ref 14, .int a1, .int (0 : Int32), .null]) (by decide +kernel) (by decide) rfl ?_
  refine tq_s_aload_n (kk := 0) (by decide +kernel) rfl ?_
  refine tq_s_alen (by decide +kernel) sh_14 (by decide) ?_
  refine tq_g_istore_n (kk := 3) (fun v1 => [.ref 14, .int a1, .int (0 : Int32), .int v1]) (by decide +kernel) (by decide) (fun _ => rfl) (fun v1 ev1 => ?_)
  replace h := h v1 ev1
  exact ac_J7_fill_53178_5 h
def wb_J7_fill_53178_r1_5 (B5 : Int32 → tq_S → Prop) (Q : tq_O → tq_S → Prop) (a1 : Int32) (a2 : Int32) (a3 : Int32) (z : tq_S) : Prop := ((a3 ≤ a2 → Q (.inl none) z) ∧ (¬ a3 ≤ a2 → vp_in a2 81 ∧ ∀ z101 : tq_S, z101 = tq_sai z 13 (upd (tq_ai z 13) (Int32.toNatClampNeg a2) a1) → ∀ v102 : Int32, v102 = a2 + (1 : Int32) → B5 v102 z101))
def wc_J7_fill_53178_r1_5 (Q : tq_O → tq_S → Prop) (a1 : Int32) (a2 : Int32) (a3 : Int32) (z : tq_S) : Prop := tq_lp (σ := Int32 × tq_S) (fun B s => wb_J7_fill_53178_r1_5 (fun b2 z => B (b2, z)) Q a1 s.1 a3 s.2) (a2, z)
theorem ab_J7_fill_53178_r1_5 {K : Nat × (Nat → Int32)} {x : Nat} {Q : tq_O → tq_S → Prop} {B5 : Int32 → tq_S → Prop} {a1 : Int32} {a2 : Int32} {a3 : Int32} {z : tq_S} (hB5 : ∀ (b2 : Int32) (z : tq_S), B5 b2 z → tq_T K 0 x mm_J7_fill_53178 5 [.ref 13, .int a1, .int b2, .int a3] [] z Q) (h : wb_J7_fill_53178_r1_5 B5 Q a1 a2 a3 z) : tq_T K 0 x mm_J7_fill_53178 5 [.ref 13, .int a1, .int a2, .int a3] [] z Q := by
  unfold wb_J7_fill_53178_r1_5 at h
  refine tq_s_iload_n (kk := 2) (by decide +kernel) rfl ?_
  refine tq_s_iload_n (kk := 3) (by decide +kernel) rfl ?_
  refine tq_icmp_ge (off := 13) (tgt := 20) (by decide +kernel) (by decide +kernel) (fun hc => ?_) (fun hc => ?_)
  · replace h := h.1 hc
    exact tq_ret_v (by decide +kernel) rfl h
  · replace h := h.2 hc
    refine tq_s_aload_n (kk := 0) (by decide +kernel) rfl ?_
    refine tq_s_iload_n (kk := 2) (by decide +kernel) rfl ?_
    refine tq_s_iload_n (kk := 1) (by decide +kernel) rfl ?_
    refine tq_g_iast (by decide +kernel) sh_13 h.1 (fun z101 ez101 => ?_)
    replace h := h.2 z101 ez101
    refine tq_g_iinc (i := 2) (fun v102 => [.ref 13, .int a1, .int v102, .int a3]) (by decide +kernel) rfl (1 : Int32) kc_1 (fun _ => rfl) (fun v102 ev102 => ?_)
    replace h := h v102 ev102
    refine tq_s_goto (off := -12) (tgt := 5) (by decide +kernel) (by decide +kernel) ?_
    exact hB5 _ _ h
theorem ac_J7_fill_53178_r1_5 {K : Nat × (Nat → Int32)} {x : Nat} {Q : tq_O → tq_S → Prop} {a1 : Int32} {a2 : Int32} {a3 : Int32} {z : tq_S} (h : wc_J7_fill_53178_r1_5 Q a1 a2 a3 z) : tq_T K 0 x mm_J7_fill_53178 5 [.ref 13, .int a1, .int a2, .int a3] [] z Q :=
  tq_lp_T (σ := Int32 × tq_S) (G := fun s => tq_T K 0 x mm_J7_fill_53178 5 [.ref 13, .int a1, .int s.1, .int a3] [] s.2 Q) (fun B hB s h => ab_J7_fill_53178_r1_5 (fun b2 z h => hB (b2, z) h) h) h
def wm_J7_fill_53178_r1 (a1 : Int32) (z : tq_S) (Q : tq_O → tq_S → Prop) : Prop := ∀ v1 : Int32, v1 = (Int32.ofNat 81) → wc_J7_fill_53178_r1_5 Q a1 (0 : Int32) v1 z
theorem am_J7_fill_53178_r1 {K : Nat × (Nat → Int32)} {x : Nat} {z : tq_S} {Q : tq_O → tq_S → Prop} {a1 : Int32} (h : wm_J7_fill_53178_r1 a1 z Q) : tq_M K 0 x mm_J7_fill_53178 [.ref 13, .int a1] z Q := by
  unfold wm_J7_fill_53178_r1 at h
  refine tq_enter (L := [.ref 13, .int a1, .null, .null]) mf_J7_fill_53178.1 rfl rfl (by decide) ?_
  refine tq_k_ic (n := 0) (v := (0 : Int32)) (by decide +kernel) kc_0 ?_
  refine tq_s_istore_n (kk := 2) (L9 := [.ref 13, .int a1, .int (0 : Int32), .null]) (by decide +kernel) (by decide) rfl ?_
  refine tq_s_aload_n (kk := 0) (by decide +kernel) rfl ?_
  refine tq_s_alen (by decide +kernel) sh_13 (by decide) ?_
  refine tq_g_istore_n (kk := 3) (fun v1 => [.ref 13, .int a1, .int (0 : Int32), .int v1]) (by decide +kernel) (by decide) (fun _ => rfl) (fun v1 ev1 => ?_)
  replace h := h v1 ev1
  exact ac_J7_fill_53178_r1_5 h
def wm_J9_abs_0f7a4 (a0 : Int32) (z : tq_S) (Q : tq_O → tq_S → Prop) : Prop := ((0 ≤ a0 → Q (.inl (some (.int a0))) z) ∧ (¬ 0 ≤ a0 → Q (.inl (some (.int (-a0)))) z))
theorem am_J9_abs_0f7a4 {K : Nat × (Nat → Int32)} {x : Nat} {z : tq_S} {Q : tq_O → tq_S → Prop} {a0 : Int32} (h : wm_J9_abs_0f7a4 a0 z Q) : tq_M K 0 x mm_J9_abs_0f7a4 [.int a0] z Q := by
  unfold wm_J9_abs_0f7a4 at h
  refine tq_enter (L := [.int a0]) mf_J9_abs_0f7a4.1 rfl rfl (by decide) ?_
  refine tq_s_iload_n (kk := 0) (by decide +kernel) rfl ?_
  refine tq_if_ge (off := 8) (tgt := 9) (by decide +kernel) (by decide +kernel) (fun hc => ?_) (fun hc => ?_)
  · replace h := h.1 hc
    refine tq_s_iload_n (kk := 0) (by decide +kernel) rfl ?_
    exact tq_ret_i (by decide +kernel) rfl h
  · replace h := h.2 hc
    refine tq_s_iload_n (kk := 0) (by decide +kernel) rfl ?_
    refine tq_s_ineg (by decide +kernel) ?_
    refine tq_s_goto (off := 4) (tgt := 10) (by decide +kernel) (by decide +kernel) ?_
    exact tq_ret_i (by decide +kernel) rfl h
def wb_J7_fill_53178_r2_5 (B5 : Int32 → tq_S → Prop) (Q : tq_O → tq_S → Prop) (a1 : Int32) (a2 : Int32) (a3 : Int32) (z : tq_S) : Prop := ((a3 ≤ a2 → Q (.inl none) z) ∧ (¬ a3 ≤ a2 → vp_in a2 64 ∧ ∀ z101 : tq_S, z101 = tq_sai z 20 (upd (tq_ai z 20) (Int32.toNatClampNeg a2) a1) → ∀ v102 : Int32, v102 = a2 + (1 : Int32) → B5 v102 z101))
def wc_J7_fill_53178_r2_5 (Q : tq_O → tq_S → Prop) (a1 : Int32) (a2 : Int32) (a3 : Int32) (z : tq_S) : Prop := tq_lp (σ := Int32 × tq_S) (fun B s => wb_J7_fill_53178_r2_5 (fun b2 z => B (b2, z)) Q a1 s.1 a3 s.2) (a2, z)
theorem ab_J7_fill_53178_r2_5 {K : Nat × (Nat → Int32)} {x : Nat} {Q : tq_O → tq_S → Prop} {B5 : Int32 → tq_S → Prop} {a1 : Int32} {a2 : Int32} {a3 : Int32} {z : tq_S} (hB5 : ∀ (b2 : Int32) (z : tq_S), B5 b2 z → tq_T K 0 x mm_J7_fill_53178 5 [.ref 20, .int a1, .int b2, .int a3] [] z Q) (h : wb_J7_fill_53178_r2_5 B5 Q a1 a2 a3 z) : tq_T K 0 x mm_J7_fill_53178 5 [.ref 20, .int a1, .int a2, .int a3] [] z Q := by
  unfold wb_J7_fill_53178_r2_5 at h
  refine tq_s_iload_n (kk := 2) (by decide +kernel) rfl ?_
  refine tq_s_iload_n (kk := 3) (by decide +kernel) rfl ?_
  refine tq_icmp_ge (off := 13) (tgt := 20) (by decide +kernel) (by decide +kernel) (fun hc => ?_) (fun hc => ?_)
  · replace h := h.1 hc
    exact tq_ret_v (by decide +kernel) rfl h
  · replace h := h.2 hc
    refine tq_s_aload_n (kk := 0) (by decide +kernel) rfl ?_
    refine tq_s_iload_n (kk := 2) (by decide +kernel) rfl ?_
    refine tq_s_iload_n (kk := 1) (by decide +kernel) rfl ?_
    refine tq_g_iast (by decide +kernel) sh_20 h.1 (fun z101 ez101 => ?_)
    replace h := h.2 z101 ez101
    refine tq_g_iinc (i := 2) (fun v102 => [.ref 20, .int a1, .int v102, .int a3]) (by decide +kernel) rfl (1 : Int32) kc_1 (fun _ => rfl) (fun v102 ev102 => ?_)
    replace h := h v102 ev102
    refine tq_s_goto (off := -12) (tgt := 5) (by decide +kernel) (by decide +kernel) ?_
    exact hB5 _ _ h
theorem ac_J7_fill_53178_r2_5 {K : Nat × (Nat → Int32)} {x : Nat} {Q : tq_O → tq_S → Prop} {a1 : Int32} {a2 : Int32} {a3 : Int32} {z : tq_S} (h : wc_J7_fill_53178_r2_5 Q a1 a2 a3 z) : tq_T K 0 x mm_J7_fill_53178 5 [.ref 20, .int a1, .int a2, .int a3] [] z Q :=
  tq_lp_T (σ := Int32 × tq_S) (G := fun s => tq_T K 0 x mm_J7_fill_53178 5 [.ref 20, .int a1, .int s.1, .int a3] [] s.2 Q) (fun B hB s h => ab_J7_fill_53178_r2_5 (fun b2 z h => hB (b2, z) h) h) h
def wm_J7_fill_53178_r2 (a1 : Int32) (z : tq_S) (Q : tq_O → tq_S → Prop) : Prop := ∀ v1 : Int32, v1 = (Int32.ofNat 64) → wc_J7_fill_53178_r2_5 Q a1 (0 : Int32) v1 z
theorem am_J7_fill_53178_r2 {K : Nat × (Nat → Int32)} {x : Nat} {z : tq_S} {Q : tq_O → tq_S → Prop} {a1 : Int32} (h : wm_J7_fill_53178_r2 a1 z Q) : tq_M K 0 x mm_J7_fill_53178 [.ref 20, .int a1] z Q := by
  unfold wm_J7_fill_53178_r2 at h
  refine tq_enter (L := [.ref 20, .int a1, .null, .null]) mf_J7_fill_53178.1 rfl rfl (by decide) ?_
  refine tq_k_ic (n := 0) (v := (0 : Int32)) (by decide +kernel) kc_0 ?_
  refine tq_s_istore_n (kk := 2) (L9 := [.ref 20, .int a1, .int (0 : Int32), .null]) (by decide +kernel) (by decide) rfl ?_
  refine tq_s_aload_n (kk := 0) (by decide +kernel) rfl ?_
  refine tq_s_alen (by decide +kernel) sh_20 (by decide) ?_
  refine tq_g_istore_n (kk := 3) (fun v1 => [.ref 20, .int a1, .int (0 : Int32), .int v1]) (by decide +kernel) (by decide) (fun _ => rfl) (fun v1 ev1 => ?_)
  replace h := h v1 ev1
  exact ac_J7_fill_53178_r2_5 h
def wb_J7_fill_53178_r3_5 (B5 : Int32 → tq_S → Prop) (Q : tq_O → tq_S → Prop) (a1 : Int32) (a2 : Int32) (a3 : Int32) (z : tq_S) : Prop := ((a3 ≤ a2 → Q (.inl none) z) ∧ (¬ a3 ≤ a2 → vp_in a2 64 ∧ ∀ z101 : tq_S, z101 = tq_sai z 32 (upd (tq_ai z 32) (Int32.toNatClampNeg a2) a1) → ∀ v102 : Int32, v102 = a2 + (1 : Int32) → B5 v102 z101))
def wc_J7_fill_53178_r3_5 (Q : tq_O → tq_S → Prop) (a1 : Int32) (a2 : Int32) (a3 : Int32) (z : tq_S) : Prop := tq_lp (σ := Int32 × tq_S) (fun B s => wb_J7_fill_53178_r3_5 (fun b2 z => B (b2, z)) Q a1 s.1 a3 s.2) (a2, z)
theorem ab_J7_fill_53178_r3_5 {K : Nat × (Nat → Int32)} {x : Nat} {Q : tq_O → tq_S → Prop} {B5 : Int32 → tq_S → Prop} {a1 : Int32} {a2 : Int32} {a3 : Int32} {z : tq_S} (hB5 : ∀ (b2 : Int32) (z : tq_S), B5 b2 z → tq_T K 0 x mm_J7_fill_53178 5 [.ref 32, .int a1, .int b2, .int a3] [] z Q) (h : wb_J7_fill_53178_r3_5 B5 Q a1 a2 a3 z) : tq_T K 0 x mm_J7_fill_53178 5 [.ref 32, .int a1, .int a2, .int a3] [] z Q := by
  unfold wb_J7_fill_53178_r3_5 at h
  refine tq_s_iload_n (kk := 2) (by decide +kernel) rfl ?_
  refine tq_s_iload_n (kk := 3) (by decide +kernel) rfl ?_
  refine tq_icmp_ge (off := 13) (tgt := 20) (by decide +kernel) (by decide +kernel) (fun hc => ?_) (fun hc => ?_)
  · replace h := h.1 hc
    exact tq_ret_v (by decide +kernel) rfl h
  · replace h := h.2 hc
    refine tq_s_aload_n (kk := 0) (by decide +kernel) rfl ?_
    refine tq_s_iload_n (kk := 2) (by decide +kernel) rfl ?_
    refine tq_s_iload_n (kk := 1) (by decide +kernel) rfl ?_
    refine tq_g_iast (by decide +kernel) sh_32 h.1 (fun z101 ez101 => ?_)
    replace h := h.2 z101 ez101
    refine tq_g_iinc (i := 2) (fun v102 => [.ref 32, .int a1, .int v102, .int a3]) (by decide +kernel) rfl (1 : Int32) kc_1 (fun _ => rfl) (fun v102 ev102 => ?_)
    replace h := h v102 ev102
    refine tq_s_goto (off := -12) (tgt := 5) (by decide +kernel) (by decide +kernel) ?_
    exact hB5 _ _ h
theorem ac_J7_fill_53178_r3_5 {K : Nat × (Nat → Int32)} {x : Nat} {Q : tq_O → tq_S → Prop} {a1 : Int32} {a2 : Int32} {a3 : Int32} {z : tq_S} (h : wc_J7_fill_53178_r3_5 Q a1 a2 a3 z) : tq_T K 0 x mm_J7_fill_53178 5 [.ref 32, .int a1, .int a2, .int a3] [] z Q :=
  tq_lp_T (σ := Int32 × tq_S) (G := fun s => tq_T K 0 x mm_J7_fill_53178 5 [.ref 32, .int a1, .int s.1, .int a3] [] s.2 Q) (fun B hB s h => ab_J7_fill_53178_r3_5 (fun b2 z h => hB (b2, z) h) h) h
def wm_J7_fill_53178_r3 (a1 : Int32) (z : tq_S) (Q : tq_O → tq_S → Prop) : Prop := ∀ v1 : Int32, v1 = (Int32.ofNat 64) → wc_J7_fill_53178_r3_5 Q a1 (0 : Int32) v1 z
theorem am_J7_fill_53178_r3 {K : Nat × (Nat → Int32)} {x : Nat} {z : tq_S} {Q : tq_O → tq_S → Prop} {a1 : Int32} (h : wm_J7_fill_53178_r3 a1 z Q) : tq_M K 0 x mm_J7_fill_53178 [.ref 32, .int a1] z Q := by
  unfold wm_J7_fill_53178_r3 at h
  refine tq_enter (L := [.ref 32, .int a1, .null, .null]) mf_J7_fill_53178.1 rfl rfl (by decide) ?_
  refine tq_k_ic (n := 0) (v := (0 : Int32)) (by decide +kernel) kc_0 ?_
  refine tq_s_istore_n (kk := 2) (L9 := [.ref 32, .int a1, .int (0 : Int32), .null]) (by decide +kernel) (by decide) rfl ?_
  refine tq_s_aload_n (kk := 0) (by decide +kernel) rfl ?_
  refine tq_s_alen (by decide +kernel) sh_32 (by decide) ?_
  refine tq_g_istore_n (kk := 3) (fun v1 => [.ref 32, .int a1, .int (0 : Int32), .int v1]) (by decide +kernel) (by decide) (fun _ => rfl) (fun v1 ev1 => ?_)
  replace h := h v1 ev1
  exact ac_J7_fill_53178_r3_5 h
def wm_J9_floorMod_7cf53 (a0 : Int32) (a1 : Int32) (z : tq_S) (Q : tq_O → tq_S → Prop) : Prop := (¬ a1 = 0) ∧ ∀ v1 : Int32, v1 = (a0 - a0 / a1 * a1) → ((0 ≤ (a0 ^^^ a1) → Q (.inl (some (.int v1))) z) ∧ (¬ 0 ≤ (a0 ^^^ a1) → ((v1 = 0 → Q (.inl (some (.int v1))) z) ∧ (¬ v1 = 0 → Q (.inl (some (.int (v1 + a1)))) z))))
theorem am_J9_floorMod_7cf53 {K : Nat × (Nat → Int32)} {x : Nat} {z : tq_S} {Q : tq_O → tq_S → Prop} {a0 : Int32} {a1 : Int32} (h : wm_J9_floorMod_7cf53 a0 a1 z Q) : tq_M K 0 x mm_J9_floorMod_7cf53 [.int a0, .int a1] z Q := by
  unfold wm_J9_floorMod_7cf53 at h
  refine tq_enter (L := [.int a0, .int a1, .null]) mf_J9_floorMod_7cf53.1 rfl rfl (by decide) ?_
  refine tq_s_iload_n (kk := 0) (by decide +kernel) rfl ?_
  refine tq_s_iload_n (kk := 1) (by decide +kernel) rfl ?_
  refine tq_s_irem (by decide +kernel) h.1 ?_
  replace h := h.2
  refine tq_g_istore_n (kk := 2) (fun v1 => [.int a0, .int a1, .int v1]) (by decide +kernel) (by decide) (fun _ => rfl) (fun v1 ev1 => ?_)
  replace h := h v1 ev1
  refine tq_s_iload_n (kk := 0) (by decide +kernel) rfl ?_
  refine tq_s_iload_n (kk := 1) (by decide +kernel) rfl ?_
  refine tq_s_ixor (by decide +kernel) ?_
  refine tq_if_ge (off := 11) (tgt := 18) (by decide +kernel) (by decide +kernel) (fun hc => ?_) (fun hc => ?_)
  · replace h := h.1 hc
    refine tq_s_iload_n (kk := 2) (by decide +kernel) rfl ?_
    exact tq_ret_i (by decide +kernel) rfl h
  · replace h := h.2 hc
    refine tq_s_iload_n (kk := 2) (by decide +kernel) rfl ?_
    refine tq_if_eq (off := 7) (tgt := 18) (by decide +kernel) (by decide +kernel) (fun hc => ?_) (fun hc => ?_)
    · replace h := h.1 hc
      refine tq_s_iload_n (kk := 2) (by decide +kernel) rfl ?_
      exact tq_ret_i (by decide +kernel) rfl h
    · replace h := h.2 hc
      refine tq_s_iload_n (kk := 2) (by decide +kernel) rfl ?_
      refine tq_s_iload_n (kk := 1) (by decide +kernel) rfl ?_
      refine tq_s_iadd (by decide +kernel) ?_
      exact tq_ret_i (by decide +kernel) rfl h
def wb_J7_fill_d0a16_r5_6 (B6 : Int32 → tq_S → Prop) (Q : tq_O → tq_S → Prop) (a1 : Int64) (a3 : Int32) (a4 : Int32) (z : tq_S) : Prop := ((a4 ≤ a3 → Q (.inl none) z) ∧ (¬ a4 ≤ a3 → vp_in a3 2048 ∧ ∀ z101 : tq_S, z101 = tq_sal z 34 (vp_updL (tq_al z 34) (Int32.toNatClampNeg a3) a1) → ∀ v102 : Int32, v102 = a3 + (1 : Int32) → B6 v102 z101))
def wc_J7_fill_d0a16_r5_6 (Q : tq_O → tq_S → Prop) (a1 : Int64) (a3 : Int32) (a4 : Int32) (z : tq_S) : Prop := tq_lp (σ := Int32 × tq_S) (fun B s => wb_J7_fill_d0a16_r5_6 (fun b3 z => B (b3, z)) Q a1 s.1 a4 s.2) (a3, z)
theorem ab_J7_fill_d0a16_r5_6 {K : Nat × (Nat → Int32)} {x : Nat} {Q : tq_O → tq_S → Prop} {B6 : Int32 → tq_S → Prop} {a1 : Int64} {a3 : Int32} {a4 : Int32} {z : tq_S} (hB6 : ∀ (b3 : Int32) (z : tq_S), B6 b3 z → tq_T K 0 x mm_J7_fill_d0a16 6 [.ref 34, .long a1, .null, .int b3, .int a4] [] z Q) (h : wb_J7_fill_d0a16_r5_6 B6 Q a1 a3 a4 z) : tq_T K 0 x mm_J7_fill_d0a16 6 [.ref 34, .long a1, .null, .int a3, .int a4] [] z Q := by
  unfold wb_J7_fill_d0a16_r5_6 at h
  refine tq_s_iload_n (kk := 3) (by decide +kernel) rfl ?_
  refine tq_s_iload (i := 4) (by decide +kernel) rfl ?_
  refine tq_icmp_ge (off := 13) (tgt := 22) (by decide +kernel) (by decide +kernel) (fun hc => ?_) (fun hc => ?_)
  · replace h := h.1 hc
    exact tq_ret_v (by decide +kernel) rfl h
  · replace h := h.2 hc
    refine tq_s_aload_n (kk := 0) (by decide +kernel) rfl ?_
    refine tq_s_iload_n (kk := 3) (by decide +kernel) rfl ?_
    refine tq_s_lload_n (kk := 1) (by decide +kernel) rfl ?_
    refine tq_g_last (by decide +kernel) sh_34 h.1 (fun z101 ez101 => ?_)
    replace h := h.2 z101 ez101
    refine tq_g_iinc (i := 3) (fun v102 => [.ref 34, .long a1, .null, .int v102, .int a4]) (by decide +kernel) rfl (1 : Int32) kc_1 (fun _ => rfl) (fun v102 ev102 => ?_)
    replace h := h v102 ev102
    refine tq_s_goto (off := -13) (tgt := 6) (by decide +kernel) (by decide +kernel) ?_
    exact hB6 _ _ h
theorem ac_J7_fill_d0a16_r5_6 {K : Nat × (Nat → Int32)} {x : Nat} {Q : tq_O → tq_S → Prop} {a1 : Int64} {a3 : Int32} {a4 : Int32} {z : tq_S} (h : wc_J7_fill_d0a16_r5_6 Q a1 a3 a4 z) : tq_T K 0 x mm_J7_fill_d0a16 6 [.ref 34, .long a1, .null, .int a3, .int a4] [] z Q :=
  tq_lp_T (σ := Int32 × tq_S) (G := fun s => tq_T K 0 x mm_J7_fill_d0a16 6 [.ref 34, .long a1, .null, .int s.1, .int a4] [] s.2 Q) (fun B hB s h => ab_J7_fill_d0a16_r5_6 (fun b3 z h => hB (b3, z) h) h) h
def wm_J7_fill_d0a16_r5 (a1 : Int64) (z : tq_S) (Q : tq_O → tq_S → Prop) : Prop := ∀ v1 : Int32, v1 = (Int32.ofNat 2048) → wc_J7_fill_d0a16_r5_6 Q a1 (0 : Int32) v1 z
theorem am_J7_fill_d0a16_r5 {K : Nat × (Nat → Int32)} {x : Nat} {z : tq_S} {Q : tq_O → tq_S → Prop} {a1 : Int64} (h : wm_J7_fill_d0a16_r5 a1 z Q) : tq_M K 0 x mm_J7_fill_d0a16 [.ref 34, .long a1] z Q := by
  unfold wm_J7_fill_d0a16_r5 at h
  refine tq_enter (L := [.ref 34, .long a1, .null, .null, .null]) mf_J7_fill_d0a16.1 rfl rfl (by decide) ?_
  refine tq_k_ic (n := 0) (v := (0 : Int32)) (by decide +kernel) kc_0 ?_
  refine tq_s_istore_n (kk := 3) (L9 := [.ref 34, .long a1, .null, .int (0 : Int32), .null]) (by decide +kernel) (by decide) rfl ?_
  refine tq_s_aload_n (kk := 0) (by decide +kernel) rfl ?_
  refine tq_s_alen (by decide +kernel) sh_34 (by decide) ?_
  refine tq_g_istore (i := 4) (fun v1 => [.ref 34, .long a1, .null, .int (0 : Int32), .int v1]) (by decide +kernel) (by decide) (fun _ => rfl) (fun v1 ev1 => ?_)
  replace h := h v1 ev1
  exact ac_J7_fill_d0a16_r5_6 h
def wm_J9_max_f86c9 (a0 : Int64) (a2 : Int64) (z : tq_S) (Q : tq_O → tq_S → Prop) : Prop := ((a0 < a2 → Q (.inl (some (.long a2))) z) ∧ (¬ a0 < a2 → Q (.inl (some (.long a0))) z))
theorem am_J9_max_f86c9 {K : Nat × (Nat → Int32)} {x : Nat} {z : tq_S} {Q : tq_O → tq_S → Prop} {a0 : Int64} {a2 : Int64} (h : wm_J9_max_f86c9 a0 a2 z Q) : tq_M K 0 x mm_J9_max_f86c9 [.long a0, .long a2] z Q := by
  unfold wm_J9_max_f86c9 at h
  refine tq_enter (L := [.long a0, .null, .long a2, .null]) mf_J9_max_f86c9.1 rfl rfl (by decide) ?_
  refine tq_s_lload_n (kk := 0) (by decide +kernel) rfl ?_
  refine tq_s_lload_n (kk := 2) (by decide +kernel) rfl ?_
  refine tq_lcmp_lt (off := 7) (tgt := 10) (by decide +kernel) (by decide +kernel) (by decide +kernel) (fun hc => ?_) (fun hc => ?_)
  · replace h := h.1 hc
    refine tq_s_lload_n (kk := 2) (by decide +kernel) rfl ?_
    exact tq_ret_l (by decide +kernel) rfl h
  · replace h := h.2 hc
    refine tq_s_lload_n (kk := 0) (by decide +kernel) rfl ?_
    refine tq_s_goto (off := 4) (tgt := 11) (by decide +kernel) (by decide +kernel) ?_
    exact tq_ret_l (by decide +kernel) rfl h
def wm_J9_floorDiv_f86c9 (a0 : Int64) (a2 : Int64) (z : tq_S) (Q : tq_O → tq_S → Prop) : Prop := (¬ a2 = 0) ∧ ∀ v1 : Int64, v1 = (a0 / a2) → (((0 : Int64) ≤ (a0 ^^^ a2) → Q (.inl (some (.long v1))) z) ∧ (¬ (0 : Int64) ≤ (a0 ^^^ a2) → (((v1 * a2) = a0 → Q (.inl (some (.long v1))) z) ∧ (¬ (v1 * a2) = a0 → Q (.inl (some (.long (v1 - (1 : Int64))))) z))))
theorem am_J9_floorDiv_f86c9 {K : Nat × (Nat → Int32)} {x : Nat} {z : tq_S} {Q : tq_O → tq_S → Prop} {a0 : Int64} {a2 : Int64} (h : wm_J9_floorDiv_f86c9 a0 a2 z Q) : tq_M K 0 x mm_J9_floorDiv_f86c9 [.long a0, .long a2] z Q := by
  unfold wm_J9_floorDiv_f86c9 at h
  refine tq_enter (L := [.long a0, .null, .long a2, .null, .null, .null]) mf_J9_floorDiv_f86c9.1 rfl rfl (by decide) ?_
  refine tq_s_lload_n (kk := 0) (by decide +kernel) rfl ?_
  refine tq_s_lload_n (kk := 2) (by decide +kernel) rfl ?_
  refine tq_s_ldiv (by decide +kernel) h.1 ?_
  replace h := h.2
  refine tq_g_lstore (i := 4) (fun v1 => [.long a0, .null, .long a2, .null, .long v1, .null]) (by decide +kernel) (by decide) (fun _ => rfl) (fun v1 ev1 => ?_)
  replace h := h v1 ev1
  refine tq_s_lload_n (kk := 0) (by decide +kernel) rfl ?_
  refine tq_s_lload_n (kk := 2) (by decide +kernel) rfl ?_
  refine tq_s_lxor (by decide +kernel) ?_
  refine tq_k_lc (n := 0) (v := (0 : Int64)) (by decide +kernel) (by decide +kernel) ?_
  refine tq_lcmp_ge (off := 17) (tgt := 27) (by decide +kernel) (by decide +kernel) (by decide +kernel) (fun hc => ?_) (fun hc => ?_)
  · replace h := h.1 hc
    refine tq_s_lload (i := 4) (by decide +kernel) rfl ?_
    exact tq_ret_l (by decide +kernel) rfl h
  · replace h := h.2 hc
    refine tq_s_lload (i := 4) (by decide +kernel) rfl ?_
    refine tq_s_lload_n (kk := 2) (by decide +kernel) rfl ?_
    refine tq_s_lmul (by decide +kernel) ?_
    refine tq_s_lload_n (kk := 0) (by decide +kernel) rfl ?_
    refine tq_lcmp_eq (off := 8) (tgt := 27) (by decide +kernel) (by decide +kernel) (by decide +kernel) (fun hc => ?_) (fun hc => ?_)
    · replace h := h.1 hc
      refine tq_s_lload (i := 4) (by decide +kernel) rfl ?_
      exact tq_ret_l (by decide +kernel) rfl h
    · replace h := h.2 hc
      refine tq_s_lload (i := 4) (by decide +kernel) rfl ?_
      refine tq_k_lc (n := 1) (v := (1 : Int64)) (by decide +kernel) (by decide +kernel) ?_
      refine tq_s_lsub (by decide +kernel) ?_
      exact tq_ret_l (by decide +kernel) rfl h
def wb_J7_fill_d0a16_r6_6 (B6 : Int32 → tq_S → Prop) (Q : tq_O → tq_S → Prop) (a1 : Int64) (a3 : Int32) (a4 : Int32) (z : tq_S) : Prop := ((a4 ≤ a3 → Q (.inl none) z) ∧ (¬ a4 ≤ a3 → vp_in a3 64 ∧ ∀ z101 : tq_S, z101 = tq_sal z 40 (vp_updL (tq_al z 40) (Int32.toNatClampNeg a3) a1) → ∀ v102 : Int32, v102 = a3 + (1 : Int32) → B6 v102 z101))
def wc_J7_fill_d0a16_r6_6 (Q : tq_O → tq_S → Prop) (a1 : Int64) (a3 : Int32) (a4 : Int32) (z : tq_S) : Prop := tq_lp (σ := Int32 × tq_S) (fun B s => wb_J7_fill_d0a16_r6_6 (fun b3 z => B (b3, z)) Q a1 s.1 a4 s.2) (a3, z)
theorem ab_J7_fill_d0a16_r6_6 {K : Nat × (Nat → Int32)} {x : Nat} {Q : tq_O → tq_S → Prop} {B6 : Int32 → tq_S → Prop} {a1 : Int64} {a3 : Int32} {a4 : Int32} {z : tq_S} (hB6 : ∀ (b3 : Int32) (z : tq_S), B6 b3 z → tq_T K 0 x mm_J7_fill_d0a16 6 [.ref 40, .long a1, .null, .int b3, .int a4] [] z Q) (h : wb_J7_fill_d0a16_r6_6 B6 Q a1 a3 a4 z) : tq_T K 0 x mm_J7_fill_d0a16 6 [.ref 40, .long a1, .null, .int a3, .int a4] [] z Q := by
  unfold wb_J7_fill_d0a16_r6_6 at h
  refine tq_s_iload_n (kk := 3) (by decide +kernel) rfl ?_
  refine tq_s_iload (i := 4) (by decide +kernel) rfl ?_
  refine tq_icmp_ge (off := 13) (tgt := 22) (by decide +kernel) (by decide +kernel) (fun hc => ?_) (fun hc => ?_)
  · replace h := h.1 hc
    exact tq_ret_v (by decide +kernel) rfl h
  · replace h := h.2 hc
    refine tq_s_aload_n (kk := 0) (by decide +kernel) rfl ?_
    refine tq_s_iload_n (kk := 3) (by decide +kernel) rfl ?_
    refine tq_s_lload_n (kk := 1) (by decide +kernel) rfl ?_
    refine tq_g_last (by decide +kernel) sh_40 h.1 (fun z101 ez101 => ?_)
    replace h := h.2 z101 ez101
    refine tq_g_iinc (i := 3) (fun v102 => [.ref 40, .long a1, .null, .int v102, .int a4]) (by decide +kernel) rfl (1 : Int32) kc_1 (fun _ => rfl) (fun v102 ev102 => ?_)
    replace h := h v102 ev102
    refine tq_s_goto (off := -13) (tgt := 6) (by decide +kernel) (by decide +kernel) ?_
    exact hB6 _ _ h
theorem ac_J7_fill_d0a16_r6_6 {K : Nat × (Nat → Int32)} {x : Nat} {Q : tq_O → tq_S → Prop} {a1 : Int64} {a3 : Int32} {a4 : Int32} {z : tq_S} (h : wc_J7_fill_d0a16_r6_6 Q a1 a3 a4 z) : tq_T K 0 x mm_J7_fill_d0a16 6 [.ref 40, .long a1, .null, .int a3, .int a4] [] z Q :=
  tq_lp_T (σ := Int32 × tq_S) (G := fun s => tq_T K 0 x mm_J7_fill_d0a16 6 [.ref 40, .long a1, .null, .int s.1, .int a4] [] s.2 Q) (fun B hB s h => ab_J7_fill_d0a16_r6_6 (fun b3 z h => hB (b3, z) h) h) h
def wm_J7_fill_d0a16_r6 (a1 : Int64) (z : tq_S) (Q : tq_O → tq_S → Prop) : Prop := ∀ v1 : Int32, v1 = (Int32.ofNat 64) → wc_J7_fill_d0a16_r6_6 Q a1 (0 : Int32) v1 z
theorem am_J7_fill_d0a16_r6 {K : Nat × (Nat → Int32)} {x : Nat} {z : tq_S} {Q : tq_O → tq_S → Prop} {a1 : Int64} (h : wm_J7_fill_d0a16_r6 a1 z Q) : tq_M K 0 x mm_J7_fill_d0a16 [.ref 40, .long a1] z Q := by
  unfold wm_J7_fill_d0a16_r6 at h
  refine tq_enter (L := [.ref 40, .long a1, .null, .null, .null]) mf_J7_fill_d0a16.1 rfl rfl (by decide) ?_
  refine tq_k_ic (n := 0) (v := (0 : Int32)) (by decide +kernel) kc_0 ?_
  refine tq_s_istore_n (kk := 3) (L9 := [.ref 40, .long a1, .null, .int (0 : Int32), .null]) (by decide +kernel) (by decide) rfl ?_
  refine tq_s_aload_n (kk := 0) (by decide +kernel) rfl ?_
  refine tq_s_alen (by decide +kernel) sh_40 (by decide) ?_
  refine tq_g_istore (i := 4) (fun v1 => [.ref 40, .long a1, .null, .int (0 : Int32), .int v1]) (by decide +kernel) (by decide) (fun _ => rfl) (fun v1 ev1 => ?_)
  replace h := h v1 ev1
  exact ac_J7_fill_d0a16_r6_6 h
def wb_J7_fill_d0a16_r7_6 (B6 : Int32 → tq_S → Prop) (Q : tq_O → tq_S → Prop) (a1 : Int64) (a3 : Int32) (a4 : Int32) (z : tq_S) : Prop := ((a4 ≤ a3 → Q (.inl none) z) ∧ (¬ a4 ≤ a3 → vp_in a3 64 ∧ ∀ z101 : tq_S, z101 = tq_sal z 41 (vp_updL (tq_al z 41) (Int32.toNatClampNeg a3) a1) → ∀ v102 : Int32, v102 = a3 + (1 : Int32) → B6 v102 z101))
def wc_J7_fill_d0a16_r7_6 (Q : tq_O → tq_S → Prop) (a1 : Int64) (a3 : Int32) (a4 : Int32) (z : tq_S) : Prop := tq_lp (σ := Int32 × tq_S) (fun B s => wb_J7_fill_d0a16_r7_6 (fun b3 z => B (b3, z)) Q a1 s.1 a4 s.2) (a3, z)
theorem ab_J7_fill_d0a16_r7_6 {K : Nat × (Nat → Int32)} {x : Nat} {Q : tq_O → tq_S → Prop} {B6 : Int32 → tq_S → Prop} {a1 : Int64} {a3 : Int32} {a4 : Int32} {z : tq_S} (hB6 : ∀ (b3 : Int32) (z : tq_S), B6 b3 z → tq_T K 0 x mm_J7_fill_d0a16 6 [.ref 41, .long a1, .null, .int b3, .int a4] [] z Q) (h : wb_J7_fill_d0a16_r7_6 B6 Q a1 a3 a4 z) : tq_T K 0 x mm_J7_fill_d0a16 6 [.ref 41, .long a1, .null, .int a3, .int a4] [] z Q := by
  unfold wb_J7_fill_d0a16_r7_6 at h
  refine tq_s_iload_n (kk := 3) (by decide +kernel) rfl ?_
  refine tq_s_iload (i := 4) (by decide +kernel) rfl ?_
  refine tq_icmp_ge (off := 13) (tgt := 22) (by decide +kernel) (by decide +kernel) (fun hc => ?_) (fun hc => ?_)
  · replace h := h.1 hc
    exact tq_ret_v (by decide +kernel) rfl h
  · replace h := h.2 hc
    refine tq_s_aload_n (kk := 0) (by decide +kernel) rfl ?_
    refine tq_s_iload_n (kk := 3) (by decide +kernel) rfl ?_
    refine tq_s_lload_n (kk := 1) (by decide +kernel) rfl ?_
    refine tq_g_last (by decide +kernel) sh_41 h.1 (fun z101 ez101 => ?_)
    replace h := h.2 z101 ez101
    refine tq_g_iinc (i := 3) (fun v102 => [.ref 41, .long a1, .null, .int v102, .int a4]) (by decide +kernel) rfl (1 : Int32) kc_1 (fun _ => rfl) (fun v102 ev102 => ?_)
    replace h := h v102 ev102
    refine tq_s_goto (off := -13) (tgt := 6) (by decide +kernel) (by decide +kernel) ?_
    exact hB6 _ _ h
theorem ac_J7_fill_d0a16_r7_6 {K : Nat × (Nat → Int32)} {x : Nat} {Q : tq_O → tq_S → Prop} {a1 : Int64} {a3 : Int32} {a4 : Int32} {z : tq_S} (h : wc_J7_fill_d0a16_r7_6 Q a1 a3 a4 z) : tq_T K 0 x mm_J7_fill_d0a16 6 [.ref 41, .long a1, .null, .int a3, .int a4] [] z Q :=
  tq_lp_T (σ := Int32 × tq_S) (G := fun s => tq_T K 0 x mm_J7_fill_d0a16 6 [.ref 41, .long a1, .null, .int s.1, .int a4] [] s.2 Q) (fun B hB s h => ab_J7_fill_d0a16_r7_6 (fun b3 z h => hB (b3, z) h) h) h
def wm_J7_fill_d0a16_r7 (a1 : Int64) (z : tq_S) (Q : tq_O → tq_S → Prop) : Prop := ∀ v1 : Int32, v1 = (Int32.ofNat 64) → wc_J7_fill_d0a16_r7_6 Q a1 (0 : Int32) v1 z
theorem am_J7_fill_d0a16_r7 {K : Nat × (Nat → Int32)} {x : Nat} {z : tq_S} {Q : tq_O → tq_S → Prop} {a1 : Int64} (h : wm_J7_fill_d0a16_r7 a1 z Q) : tq_M K 0 x mm_J7_fill_d0a16 [.ref 41, .long a1] z Q := by
  unfold wm_J7_fill_d0a16_r7 at h
  refine tq_enter (L := [.ref 41, .long a1, .null, .null, .null]) mf_J7_fill_d0a16.1 rfl rfl (by decide) ?_
  refine tq_k_ic (n := 0) (v := (0 : Int32)) (by decide +kernel) kc_0 ?_
  refine tq_s_istore_n (kk := 3) (L9 := [.ref 41, .long a1, .null, .int (0 : Int32), .null]) (by decide +kernel) (by decide) rfl ?_
  refine tq_s_aload_n (kk := 0) (by decide +kernel) rfl ?_
  refine tq_s_alen (by decide +kernel) sh_41 (by decide) ?_
  refine tq_g_istore (i := 4) (fun v1 => [.ref 41, .long a1, .null, .int (0 : Int32), .int v1]) (by decide +kernel) (by decide) (fun _ => rfl) (fun v1 ev1 => ?_)
  replace h := h v1 ev1
  exact ac_J7_fill_d0a16_r7_6 h
def wb_J7_fill_d0a16_r8_6 (B6 : Int32 → tq_S → Prop) (Q : tq_O → tq_S → Prop) (a1 : Int64) (a3 : Int32) (a4 : Int32) (z : tq_S) : Prop := ((a4 ≤ a3 → Q (.inl none) z) ∧ (¬ a4 ≤ a3 → vp_in a3 256 ∧ ∀ z101 : tq_S, z101 = tq_sal z 43 (vp_updL (tq_al z 43) (Int32.toNatClampNeg a3) a1) → ∀ v102 : Int32, v102 = a3 + (1 : Int32) → B6 v102 z101))
def wc_J7_fill_d0a16_r8_6 (Q : tq_O → tq_S → Prop) (a1 : Int64) (a3 : Int32) (a4 : Int32) (z : tq_S) : Prop := tq_lp (σ := Int32 × tq_S) (fun B s => wb_J7_fill_d0a16_r8_6 (fun b3 z => B (b3, z)) Q a1 s.1 a4 s.2) (a3, z)
theorem ab_J7_fill_d0a16_r8_6 {K : Nat × (Nat → Int32)} {x : Nat} {Q : tq_O → tq_S → Prop} {B6 : Int32 → tq_S → Prop} {a1 : Int64} {a3 : Int32} {a4 : Int32} {z : tq_S} (hB6 : ∀ (b3 : Int32) (z : tq_S), B6 b3 z → tq_T K 0 x mm_J7_fill_d0a16 6 [.ref 43, .long a1, .null, .int b3, .int a4] [] z Q) (h : wb_J7_fill_d0a16_r8_6 B6 Q a1 a3 a4 z) : tq_T K 0 x mm_J7_fill_d0a16 6 [.ref 43, .long a1, .null, .int a3, .int a4] [] z Q := by
  unfold wb_J7_fill_d0a16_r8_6 at h
  refine tq_s_iload_n (kk := 3) (by decide +kernel) rfl ?_
  refine tq_s_iload (i := 4) (by decide +kernel) rfl ?_
  refine tq_icmp_ge (off := 13) (tgt := 22) (by decide +kernel) (by decide +kernel) (fun hc => ?_) (fun hc => ?_)
  · replace h := h.1 hc
    exact tq_ret_v (by decide +kernel) rfl h
  · replace h := h.2 hc
    refine tq_s_aload_n (kk := 0) (by decide +kernel) rfl ?_
    refine tq_s_iload_n (kk := 3) (by decide +kernel) rfl ?_
    refine tq_s_lload_n (kk := 1) (by decide +kernel) rfl ?_
    refine tq_g_last (by decide +kernel) sh_43 h.1 (fun z101 ez101 => ?_)
    replace h := h.2 z101 ez101
    refine tq_g_iinc (i := 3) (fun v102 => [.ref 43, .long a1, .null, .int v102, .int a4]) (by decide +kernel) rfl (1 : Int32) kc_1 (fun _ => rfl) (fun v102 ev102 => ?_)
    replace h := h v102 ev102
    refine tq_s_goto (off := -13) (tgt := 6) (by decide +kernel) (by decide +kernel) ?_
    exact hB6 _ _ h
theorem ac_J7_fill_d0a16_r8_6 {K : Nat × (Nat → Int32)} {x : Nat} {Q : tq_O → tq_S → Prop} {a1 : Int64} {a3 : Int32} {a4 : Int32} {z : tq_S} (h : wc_J7_fill_d0a16_r8_6 Q a1 a3 a4 z) : tq_T K 0 x mm_J7_fill_d0a16 6 [.ref 43, .long a1, .null, .int a3, .int a4] [] z Q :=
  tq_lp_T (σ := Int32 × tq_S) (G := fun s => tq_T K 0 x mm_J7_fill_d0a16 6 [.ref 43, .long a1, .null, .int s.1, .int a4] [] s.2 Q) (fun B hB s h => ab_J7_fill_d0a16_r8_6 (fun b3 z h => hB (b3, z) h) h) h
def wm_J7_fill_d0a16_r8 (a1 : Int64) (z : tq_S) (Q : tq_O → tq_S → Prop) : Prop := ∀ v1 : Int32, v1 = (Int32.ofNat 256) → wc_J7_fill_d0a16_r8_6 Q a1 (0 : Int32) v1 z
theorem am_J7_fill_d0a16_r8 {K : Nat × (Nat → Int32)} {x : Nat} {z : tq_S} {Q : tq_O → tq_S → Prop} {a1 : Int64} (h : wm_J7_fill_d0a16_r8 a1 z Q) : tq_M K 0 x mm_J7_fill_d0a16 [.ref 43, .long a1] z Q := by
  unfold wm_J7_fill_d0a16_r8 at h
  refine tq_enter (L := [.ref 43, .long a1, .null, .null, .null]) mf_J7_fill_d0a16.1 rfl rfl (by decide) ?_
  refine tq_k_ic (n := 0) (v := (0 : Int32)) (by decide +kernel) kc_0 ?_
  refine tq_s_istore_n (kk := 3) (L9 := [.ref 43, .long a1, .null, .int (0 : Int32), .null]) (by decide +kernel) (by decide) rfl ?_
  refine tq_s_aload_n (kk := 0) (by decide +kernel) rfl ?_
  refine tq_s_alen (by decide +kernel) sh_43 (by decide) ?_
  refine tq_g_istore (i := 4) (fun v1 => [.ref 43, .long a1, .null, .int (0 : Int32), .int v1]) (by decide +kernel) (by decide) (fun _ => rfl) (fun v1 ev1 => ?_)
  replace h := h v1 ev1
  exact ac_J7_fill_d0a16_r8_6 h
def wm_J6_bitCount_0f7a4 (a0 : Int32) (z : tq_S) (Q : tq_O → tq_S → Prop) : Prop := ∀ v1 : Int32, v1 = (a0 - (((Int32.toUInt32 a0) >>> ((Int32.toUInt32 (1 : Int32)) &&& Int32.toUInt32 31)).toInt32 &&& (1431655765 : Int32))) → ∀ v2 : Int32, v2 = ((v1 &&& (858993459 : Int32)) + (((Int32.toUInt32 v1) >>> ((Int32.toUInt32 (2 : Int32)) &&& Int32.toUInt32 31)).toInt32 &&& (858993459 : Int32))) → ∀ v3 : Int32, v3 = ((v2 + ((Int32.toUInt32 v2) >>> ((Int32.toUInt32 (4 : Int32)) &&& Int32.toUInt32 31)).toInt32) &&& (252645135 : Int32)) → ∀ v4 : Int32, v4 = (v3 + ((Int32.toUInt32 v3) >>> ((Int32.toUInt32 (8 : Int32)) &&& Int32.toUInt32 31)).toInt32) → ∀ v5 : Int32, v5 = (v4 + ((Int32.toUInt32 v4) >>> ((Int32.toUInt32 (16 : Int32)) &&& Int32.toUInt32 31)).toInt32) → Q (.inl (some (.int (v5 &&& (63 : Int32))))) z
theorem am_J6_bitCount_0f7a4 {K : Nat × (Nat → Int32)} {x : Nat} {z : tq_S} {Q : tq_O → tq_S → Prop} {a0 : Int32} (h : wm_J6_bitCount_0f7a4 a0 z Q) : tq_M K 0 x mm_J6_bitCount_0f7a4 [.int a0] z Q := by
  unfold wm_J6_bitCount_0f7a4 at h
  refine tq_enter (L := [.int a0]) mf_J6_bitCount_0f7a4.1 rfl rfl (by decide) ?_
  refine tq_s_iload_n (kk := 0) (by decide +kernel) rfl ?_
  refine tq_s_iload_n (kk := 0) (by decide +kernel) rfl ?_
  refine tq_k_ic (n := 1) (v := (1 : Int32)) (by decide +kernel) kc_1 ?_
  refine tq_s_iushr (by decide +kernel) ?_
  refine tq_s_ldcw (v := (1431655765 : Int32)) (by decide +kernel) (by decide +kernel) ?_
  refine tq_s_iand (by decide +kernel) ?_
  refine tq_s_isub (by decide +kernel) ?_
  refine tq_g_istore_n (kk := 0) (fun v1 => [.int v1]) (by decide +kernel) (by decide) (fun _ => rfl) (fun v1 ev1 => ?_)
  replace h := h v1 ev1
  refine tq_s_iload_n (kk := 0) (by decide +kernel) rfl ?_
  refine tq_s_ldcw (v := (858993459 : Int32)) (by decide +kernel) (by decide +kernel) ?_
  refine tq_s_iand (by decide +kernel) ?_
  refine tq_s_iload_n (kk := 0) (by decide +kernel) rfl ?_
  refine tq_k_ic (n := 2) (v := (2 : Int32)) (by decide +kernel) kc_2 ?_
  refine tq_s_iushr (by decide +kernel) ?_
  refine tq_s_ldcw (v := (858993459 : Int32)) (by decide +kernel) (by decide +kernel) ?_
  refine tq_s_iand (by decide +kernel) ?_
  refine tq_s_iadd (by decide +kernel) ?_
  refine tq_g_istore_n (kk := 0) (fun v2 => [.int v2]) (by decide +kernel) (by decide) (fun _ => rfl) (fun v2 ev2 => ?_)
  replace h := h v2 ev2
  refine tq_s_iload_n (kk := 0) (by decide +kernel) rfl ?_
  refine tq_s_iload_n (kk := 0) (by decide +kernel) rfl ?_
  refine tq_k_ic (n := 4) (v := (4 : Int32)) (by decide +kernel) kc_4 ?_
  refine tq_s_iushr (by decide +kernel) ?_
  refine tq_s_iadd (by decide +kernel) ?_
  refine tq_s_ldcw (v := (252645135 : Int32)) (by decide +kernel) (by decide +kernel) ?_
  refine tq_s_iand (by decide +kernel) ?_
  refine tq_g_istore_n (kk := 0) (fun v3 => [.int v3]) (by decide +kernel) (by decide) (fun _ => rfl) (fun v3 ev3 => ?_)
  replace h := h v3 ev3
  refine tq_s_iload_n (kk := 0) (by decide +kernel) rfl ?_
  refine tq_s_iload_n (kk := 0) (by decide +kernel) rfl ?_
  refine tq_k_bi (n := 8) (v := (8 : Int32)) (by decide +kernel) kb_8 ?_
  refine tq_s_iushr (by decide +kernel) ?_
  refine tq_s_iadd (by decide +kernel) ?_
  refine tq_g_istore_n (kk := 0) (fun v4 => [.int v4]) (by decide +kernel) (by decide) (fun _ => rfl) (fun v4 ev4 => ?_)
  replace h := h v4 ev4
  refine tq_s_iload_n (kk := 0) (by decide +kernel) rfl ?_
  refine tq_s_iload_n (kk := 0) (by decide +kernel) rfl ?_
  refine tq_k_bi (n := 16) (v := (16 : Int32)) (by decide +kernel) kb_16 ?_
  refine tq_s_iushr (by decide +kernel) ?_
  refine tq_s_iadd (by decide +kernel) ?_
  refine tq_g_istore_n (kk := 0) (fun v5 => [.int v5]) (by decide +kernel) (by decide) (fun _ => rfl) (fun v5 ev5 => ?_)
  replace h := h v5 ev5
  refine tq_s_iload_n (kk := 0) (by decide +kernel) rfl ?_
  refine tq_k_bi (n := 63) (v := (63 : Int32)) (by decide +kernel) kb_63 ?_
  refine tq_s_iand (by decide +kernel) ?_
  exact tq_ret_i (by decide +kernel) rfl h
def wb_J7_fill_d0a16_r9_6 (B6 : Int32 → tq_S → Prop) (Q : tq_O → tq_S → Prop) (a1 : Int64) (a3 : Int32) (a4 : Int32) (z : tq_S) : Prop := ((a4 ≤ a3 → Q (.inl none) z) ∧ (¬ a4 ≤ a3 → vp_in a3 1024 ∧ ∀ z101 : tq_S, z101 = tq_sal z 45 (vp_updL (tq_al z 45) (Int32.toNatClampNeg a3) a1) → ∀ v102 : Int32, v102 = a3 + (1 : Int32) → B6 v102 z101))
def wc_J7_fill_d0a16_r9_6 (Q : tq_O → tq_S → Prop) (a1 : Int64) (a3 : Int32) (a4 : Int32) (z : tq_S) : Prop := tq_lp (σ := Int32 × tq_S) (fun B s => wb_J7_fill_d0a16_r9_6 (fun b3 z => B (b3, z)) Q a1 s.1 a4 s.2) (a3, z)
theorem ab_J7_fill_d0a16_r9_6 {K : Nat × (Nat → Int32)} {x : Nat} {Q : tq_O → tq_S → Prop} {B6 : Int32 → tq_S → Prop} {a1 : Int64} {a3 : Int32} {a4 : Int32} {z : tq_S} (hB6 : ∀ (b3 : Int32) (z : tq_S), B6 b3 z → tq_T K 0 x mm_J7_fill_d0a16 6 [.ref 45, .long a1, .null, .int b3, .int a4] [] z Q) (h : wb_J7_fill_d0a16_r9_6 B6 Q a1 a3 a4 z) : tq_T K 0 x mm_J7_fill_d0a16 6 [.ref 45, .long a1, .null, .int a3, .int a4] [] z Q := by
  unfold wb_J7_fill_d0a16_r9_6 at h
  refine tq_s_iload_n (kk := 3) (by decide +kernel) rfl ?_
  refine tq_s_iload (i := 4) (by decide +kernel) rfl ?_
  refine tq_icmp_ge (off := 13) (tgt := 22) (by decide +kernel) (by decide +kernel) (fun hc => ?_) (fun hc => ?_)
  · replace h := h.1 hc
    exact tq_ret_v (by decide +kernel) rfl h
  · replace h := h.2 hc
    refine tq_s_aload_n (kk := 0) (by decide +kernel) rfl ?_
    refine tq_s_iload_n (kk := 3) (by decide +kernel) rfl ?_
    refine tq_s_lload_n (kk := 1) (by decide +kernel) rfl ?_
    refine tq_g_last (by decide +kernel) sh_45 h.1 (fun z101 ez101 => ?_)
    replace h := h.2 z101 ez101
    refine tq_g_iinc (i := 3) (fun v102 => [.ref 45, .long a1, .null, .int v102, .int a4]) (by decide +kernel) rfl (1 : Int32) kc_1 (fun _ => rfl) (fun v102 ev102 => ?_)
    replace h := h v102 ev102
    refine tq_s_goto (off := -13) (tgt := 6) (by decide +kernel) (by decide +kernel) ?_
    exact hB6 _ _ h
theorem ac_J7_fill_d0a16_r9_6 {K : Nat × (Nat → Int32)} {x : Nat} {Q : tq_O → tq_S → Prop} {a1 : Int64} {a3 : Int32} {a4 : Int32} {z : tq_S} (h : wc_J7_fill_d0a16_r9_6 Q a1 a3 a4 z) : tq_T K 0 x mm_J7_fill_d0a16 6 [.ref 45, .long a1, .null, .int a3, .int a4] [] z Q :=
  tq_lp_T (σ := Int32 × tq_S) (G := fun s => tq_T K 0 x mm_J7_fill_d0a16 6 [.ref 45, .long a1, .null, .int s.1, .int a4] [] s.2 Q) (fun B hB s h => ab_J7_fill_d0a16_r9_6 (fun b3 z h => hB (b3, z) h) h) h
def wm_J7_fill_d0a16_r9 (a1 : Int64) (z : tq_S) (Q : tq_O → tq_S → Prop) : Prop := ∀ v1 : Int32, v1 = (Int32.ofNat 1024) → wc_J7_fill_d0a16_r9_6 Q a1 (0 : Int32) v1 z
theorem am_J7_fill_d0a16_r9 {K : Nat × (Nat → Int32)} {x : Nat} {z : tq_S} {Q : tq_O → tq_S → Prop} {a1 : Int64} (h : wm_J7_fill_d0a16_r9 a1 z Q) : tq_M K 0 x mm_J7_fill_d0a16 [.ref 45, .long a1] z Q := by
  unfold wm_J7_fill_d0a16_r9 at h
  refine tq_enter (L := [.ref 45, .long a1, .null, .null, .null]) mf_J7_fill_d0a16.1 rfl rfl (by decide) ?_
  refine tq_k_ic (n := 0) (v := (0 : Int32)) (by decide +kernel) kc_0 ?_
  refine tq_s_istore_n (kk := 3) (L9 := [.ref 45, .long a1, .null, .int (0 : Int32), .null]) (by decide +kernel) (by decide) rfl ?_
  refine tq_s_aload_n (kk := 0) (by decide +kernel) rfl ?_
  refine tq_s_alen (by decide +kernel) sh_45 (by decide) ?_
  refine tq_g_istore (i := 4) (fun v1 => [.ref 45, .long a1, .null, .int (0 : Int32), .int v1]) (by decide +kernel) (by decide) (fun _ => rfl) (fun v1 ev1 => ?_)
  replace h := h v1 ev1
  exact ac_J7_fill_d0a16_r9_6 h
def wc_X1_addTo_89 (B47 : Int64 → Int32 → tq_S → Prop) (B59 : Int64 → Int32 → tq_S → Prop) (Q : tq_O → tq_S → Prop) (a5 : Int32) (a6 : Int32) (s0 : Int32) (s1 : Int64) (z : tq_S) : Prop := ∀ v101 : Int64, v101 = (s1 + (Int32.toInt64 s0)) → ∀ v102 : Int32, v102 = a6 + (1 : Int32) → B59 v101 v102 z
theorem ac_X1_addTo_89 {K : Nat × (Nat → Int32)} {x : Nat} {Q : tq_O → tq_S → Prop} {B47 : Int64 → Int32 → tq_S → Prop} {B59 : Int64 → Int32 → tq_S → Prop} {a5 : Int32} {a6 : Int32} {s0 : Int32} {s1 : Int64} {z : tq_S} (hB47 : ∀ (b3 : Int64) (b5 : Int32) (z : tq_S), B47 b3 b5 z → tq_T K 1 x mm_X1_addTo 47 [.ref 1, .null, .null, .long b3, .null, .int b5, .null] [] z Q) (hB59 : ∀ (b3 : Int64) (b6 : Int32) (z : tq_S), B59 b3 b6 z → tq_T K 1 x mm_X1_addTo 59 [.ref 1, .null, .null, .long b3, .null, .int a5, .int b6] [] z Q) (h : wc_X1_addTo_89 B47 B59 Q a5 a6 s0 s1 z) : tq_T K 1 x mm_X1_addTo 89 [.ref 1, .null, .null, .null, .null, .int a5, .int a6] [.int s0, .long s1] z Q := by
  unfold wc_X1_addTo_89 at h
  refine tq_s_i2l (by decide +kernel) ?_
  refine tq_s_ladd (by decide +kernel) ?_
  refine tq_g_lstore_n (kk := 3) (fun v101 => [.ref 1, .null, .null, .long v101, .null, .int a5, .int a6]) (by decide +kernel) (by decide) (fun _ => rfl) (fun v101 ev101 => ?_)
  replace h := h v101 ev101
  refine tq_g_iinc (i := 6) (fun v102 => [.ref 1, .null, .null, .long v101, .null, .int a5, .int v102]) (by decide +kernel) rfl (1 : Int32) kc_1 (fun _ => rfl) (fun v102 ev102 => ?_)
  replace h := h v102 ev102
  refine tq_s_goto (off := -36) (tgt := 59) (by decide +kernel) (by decide +kernel) ?_
  exact hB59 _ _ _ h
def wc_X1_addTo_98 (B47 : Int64 → Int32 → tq_S → Prop) (Q : tq_O → tq_S → Prop) (a3 : Int64) (a5 : Int32) (z : tq_S) : Prop := ∀ v101 : Int32, v101 = a5 + (1 : Int32) → B47 a3 v101 z
theorem ac_X1_addTo_98 {K : Nat × (Nat → Int32)} {x : Nat} {Q : tq_O → tq_S → Prop} {B47 : Int64 → Int32 → tq_S → Prop} {a3 : Int64} {a5 : Int32} {z : tq_S} (hB47 : ∀ (b3 : Int64) (b5 : Int32) (z : tq_S), B47 b3 b5 z → tq_T K 1 x mm_X1_addTo 47 [.ref 1, .null, .null, .long b3, .null, .int b5, .null] [] z Q) (h : wc_X1_addTo_98 B47 Q a3 a5 z) : tq_T K 1 x mm_X1_addTo 98 [.ref 1, .null, .null, .long a3, .null, .int a5, .null] [] z Q := by
  unfold wc_X1_addTo_98 at h
  refine tq_g_iinc (i := 5) (fun v101 => [.ref 1, .null, .null, .long a3, .null, .int v101, .null]) (by decide +kernel) rfl (1 : Int32) kc_1 (fun _ => rfl) (fun v101 ev101 => ?_)
  replace h := h v101 ev101
  refine tq_s_goto (off := -54) (tgt := 47) (by decide +kernel) (by decide +kernel) ?_
  exact hB47 _ _ _ h
def wb_X1_addTo_59 (B47 : Int64 → Int32 → tq_S → Prop) (B59 : Int64 → Int32 → tq_S → Prop) (Q : tq_O → tq_S → Prop) (a3 : Int64) (a5 : Int32) (a6 : Int32) (z : tq_S) : Prop := (((tq_fi z 64) ≤ a6 → wc_X1_addTo_98 B47 Q a3 a5 z) ∧ (¬ (tq_fi z 64) ≤ a6 → wm_X1_holds a6 a5 z (tq_wi fun r102 z101 => ((r102 = 0 → wc_X1_addTo_89 B47 B59 Q a5 a6 (0 : Int32) ((31 : Int64) * a3) z101) ∧ (¬ r102 = 0 → wc_X1_addTo_89 B47 B59 Q a5 a6 (1 : Int32) ((31 : Int64) * a3) z101)))))
def wc_X1_addTo_59 (B47 : Int64 → Int32 → tq_S → Prop) (Q : tq_O → tq_S → Prop) (a3 : Int64) (a5 : Int32) (a6 : Int32) (z : tq_S) : Prop := tq_lp (σ := Int64 × Int32 × tq_S) (fun B s => wb_X1_addTo_59 B47 (fun b3 b6 z => B (b3, b6, z)) Q s.1 a5 s.2.1 s.2.2) (a3, a6, z)
theorem ab_X1_addTo_59 {K : Nat × (Nat → Int32)} {x : Nat} {Q : tq_O → tq_S → Prop} {B47 : Int64 → Int32 → tq_S → Prop} {B59 : Int64 → Int32 → tq_S → Prop} {a3 : Int64} {a5 : Int32} {a6 : Int32} {z : tq_S} (hB47 : ∀ (b3 : Int64) (b5 : Int32) (z : tq_S), B47 b3 b5 z → tq_T K 1 x mm_X1_addTo 47 [.ref 1, .null, .null, .long b3, .null, .int b5, .null] [] z Q) (hB59 : ∀ (b3 : Int64) (b6 : Int32) (z : tq_S), B59 b3 b6 z → tq_T K 1 x mm_X1_addTo 59 [.ref 1, .null, .null, .long b3, .null, .int a5, .int b6] [] z Q) (h : wb_X1_addTo_59 B47 B59 Q a3 a5 a6 z) : tq_T K 1 x mm_X1_addTo 59 [.ref 1, .null, .null, .long a3, .null, .int a5, .int a6] [] z Q := by
  unfold wb_X1_addTo_59 at h
  refine tq_s_iload (i := 6) (by decide +kernel) rfl ?_
  refine tq_s_aload_n (kk := 0) (by decide +kernel) rfl ?_
  refine fg_1_7_1 rfl (by decide +kernel) ?_
  refine tq_icmp_ge (off := 33) (tgt := 98) (by decide +kernel) (by decide +kernel) (fun hc => ?_) (fun hc => ?_)
  · replace h := h.1 hc
    exact tq_to (tq_lk1 (tq_lk1 (tq_lk1 (tq_lk1 (tq_lk1 (tq_lk1 (tq_ld1 tq_l0))))))) (ac_X1_addTo_98 hB47 h)
  · replace h := h.2 hc
    refine tq_s_ldc2 (v := (31 : Int64)) (by decide +kernel) (by decide +kernel) ?_
    refine tq_s_lload_n (kk := 3) (by decide +kernel) rfl ?_
    refine tq_s_lmul (by decide +kernel) ?_
    refine tq_s_aload_n (kk := 0) (by decide +kernel) rfl ?_
    refine tq_s_iload (i := 6) (by decide +kernel) rfl ?_
    refine tq_s_iload (i := 5) (by decide +kernel) rfl ?_
    refine tq_callV (as := [.int a6, .int a5]) (st := [.long ((31 : Int64) * a3)]) (d1 := 0) (x1 := 0) (x2 := x) (by decide +kernel) ln_1_47 mf_X1_holds rfl sh_1 rfl (by decide) np_X1_holds rfl (Nat.le_of_ble_eq_true rfl) (by decide) (Nat.zero_add _).symm (tq_M_mono (am_X1_holds h) ?_)
    refine tq_wi_e (fun r102 z101 h => ?_)
    refine tq_if_eq (off := 7) (tgt := 88) (by decide +kernel) (by decide +kernel) (fun hc => ?_) (fun hc => ?_)
    · replace h := h.1 hc
      refine tq_k_ic (n := 0) (v := (0 : Int32)) (by decide +kernel) kc_0 ?_
      exact tq_to (tq_lk1 (tq_lk1 (tq_lk1 (tq_ld1 (tq_lk1 (tq_lk1 (tq_lk1 tq_l0))))))) (ac_X1_addTo_89 hB47 hB59 h)
    · replace h := h.2 hc
      refine tq_k_ic (n := 1) (v := (1 : Int32)) (by decide +kernel) kc_1 ?_
      refine tq_s_goto (off := 4) (tgt := 89) (by decide +kernel) (by decide +kernel) ?_
      exact tq_to (tq_lk1 (tq_lk1 (tq_lk1 (tq_ld1 (tq_lk1 (tq_lk1 (tq_lk1 tq_l0))))))) (ac_X1_addTo_89 hB47 hB59 h)
theorem ac_X1_addTo_59 {K : Nat × (Nat → Int32)} {x : Nat} {Q : tq_O → tq_S → Prop} {B47 : Int64 → Int32 → tq_S → Prop} {a3 : Int64} {a5 : Int32} {a6 : Int32} {z : tq_S} (hB47 : ∀ (b3 : Int64) (b5 : Int32) (z : tq_S), B47 b3 b5 z → tq_T K 1 x mm_X1_addTo 47 [.ref 1, .null, .null, .long b3, .null, .int b5, .null] [] z Q) (h : wc_X1_addTo_59 B47 Q a3 a5 a6 z) : tq_T K 1 x mm_X1_addTo 59 [.ref 1, .null, .null, .long a3, .null, .int a5, .int a6] [] z Q :=
  tq_lp_T (σ := Int64 × Int32 × tq_S) (G := fun s => tq_T K 1 x mm_X1_addTo 59 [.ref 1, .null, .null, .long s.1, .null, .int a5, .int s.2.1] [] s.2.2 Q) (fun B hB s h => ab_X1_addTo_59 hB47 (fun b3 b6 z h => hB (b3, b6, z) h) h) h
def wb_X1_addTo_47 (B47 : Int64 → Int32 → tq_S → Prop) (Q : tq_O → tq_S → Prop) (a3 : Int64) (a5 : Int32) (z : tq_S) : Prop := (((tq_fi z 65) ≤ a5 → Q (.inl (some (.long a3))) z) ∧ (¬ (tq_fi z 65) ≤ a5 → wc_X1_addTo_59 B47 Q a3 a5 (0 : Int32) z))
def wc_X1_addTo_47 (Q : tq_O → tq_S → Prop) (a3 : Int64) (a5 : Int32) (z : tq_S) : Prop := tq_lp (σ := Int64 × Int32 × tq_S) (fun B s => wb_X1_addTo_47 (fun b3 b5 z => B (b3, b5, z)) Q s.1 s.2.1 s.2.2) (a3, a5, z)
theorem ab_X1_addTo_47 {K : Nat × (Nat → Int32)} {x : Nat} {Q : tq_O → tq_S → Prop} {B47 : Int64 → Int32 → tq_S → Prop} {a3 : Int64} {a5 : Int32} {z : tq_S} (hB47 : ∀ (b3 : Int64) (b5 : Int32) (z : tq_S), B47 b3 b5 z → tq_T K 1 x mm_X1_addTo 47 [.ref 1, .null, .null, .long b3, .null, .int b5, .null] [] z Q) (h : wb_X1_addTo_47 B47 Q a3 a5 z) : tq_T K 1 x mm_X1_addTo 47 [.ref 1, .null, .null, .long a3, .null, .int a5, .null] [] z Q := by
  unfold wb_X1_addTo_47 at h
  refine tq_s_iload (i := 5) (by decide +kernel) rfl ?_
  refine tq_s_aload_n (kk := 0) (by decide +kernel) rfl ?_
  refine fg_1_13_1 rfl (by decide +kernel) ?_
  refine tq_icmp_ge (off := 51) (tgt := 104) (by decide +kernel) (by decide +kernel) (fun hc => ?_) (fun hc => ?_)
  · replace h := h.1 hc
    refine tq_s_lload_n (kk := 3) (by decide +kernel) rfl ?_
    exact tq_ret_l (by decide +kernel) rfl h
  · replace h := h.2 hc
    refine tq_k_ic (n := 0) (v := (0 : Int32)) (by decide +kernel) kc_0 ?_
    refine tq_s_istore (i := 6) (L9 := [.ref 1, .null, .null, .long a3, .null, .int a5, .int (0 : Int32)]) (by decide +kernel) (by decide) rfl ?_
    exact ac_X1_addTo_59 hB47 h
theorem ac_X1_addTo_47 {K : Nat × (Nat → Int32)} {x : Nat} {Q : tq_O → tq_S → Prop} {a3 : Int64} {a5 : Int32} {z : tq_S} (h : wc_X1_addTo_47 Q a3 a5 z) : tq_T K 1 x mm_X1_addTo 47 [.ref 1, .null, .null, .long a3, .null, .int a5, .null] [] z Q :=
  tq_lp_T (σ := Int64 × Int32 × tq_S) (G := fun s => tq_T K 1 x mm_X1_addTo 47 [.ref 1, .null, .null, .long s.1, .null, .int s.2.1, .null] [] s.2.2 Q) (fun B hB s h => ab_X1_addTo_47 (fun b3 b5 z h => hB (b3, b5, z) h) h) h
def wc_X1_addTo_41 (Q : tq_O → tq_S → Prop) (s0 : Int32) (s1 : Int64) (z : tq_S) : Prop := ∀ v101 : Int64, v101 = (s1 + (Int32.toInt64 s0)) → wc_X1_addTo_47 Q v101 (0 : Int32) z
theorem ac_X1_addTo_41 {K : Nat × (Nat → Int32)} {x : Nat} {Q : tq_O → tq_S → Prop} {s0 : Int32} {s1 : Int64} {z : tq_S} (h : wc_X1_addTo_41 Q s0 s1 z) : tq_T K 1 x mm_X1_addTo 41 [.ref 1, .null, .null, .null, .null, .null, .null] [.int s0, .long s1] z Q := by
  unfold wc_X1_addTo_41 at h
  refine tq_s_i2l (by decide +kernel) ?_
  refine tq_s_ladd (by decide +kernel) ?_
  refine tq_g_lstore_n (kk := 3) (fun v101 => [.ref 1, .null, .null, .long v101, .null, .null, .null]) (by decide +kernel) (by decide) (fun _ => rfl) (fun v101 ev101 => ?_)
  replace h := h v101 ev101
  refine tq_k_ic (n := 0) (v := (0 : Int32)) (by decide +kernel) kc_0 ?_
  refine tq_s_istore (i := 5) (L9 := [.ref 1, .null, .null, .long v101, .null, .int (0 : Int32), .null]) (by decide +kernel) (by decide) rfl ?_
  exact ac_X1_addTo_47 h
def wm_X1_addTo (a1 : Int64) (z : tq_S) (Q : tq_O → tq_S → Prop) : Prop := ∀ v1 : Int64, v1 = (((31 : Int64) * a1) + (Int32.toInt64 (tq_fi z 64))) → ∀ v2 : Int64, v2 = (((31 : Int64) * v1) + (Int32.toInt64 (tq_fi z 65))) → (((tq_fi z 66) = 0 → wc_X1_addTo_41 Q (0 : Int32) ((31 : Int64) * v2) z) ∧ (¬ (tq_fi z 66) = 0 → wc_X1_addTo_41 Q (1 : Int32) ((31 : Int64) * v2) z))
theorem am_X1_addTo {K : Nat × (Nat → Int32)} {x : Nat} {z : tq_S} {Q : tq_O → tq_S → Prop} {a1 : Int64} (h : wm_X1_addTo a1 z Q) : tq_M K 1 x mm_X1_addTo [.ref 1, .long a1] z Q := by
  unfold wm_X1_addTo at h
  refine tq_enter (L := [.ref 1, .long a1, .null, .null, .null, .null, .null]) mf_X1_addTo.1 rfl rfl (by decide) ?_
  refine tq_s_ldc2 (v := (31 : Int64)) (by decide +kernel) (by decide +kernel) ?_
  refine tq_s_lload_n (kk := 1) (by decide +kernel) rfl ?_
  refine tq_s_lmul (by decide +kernel) ?_
  refine tq_s_aload_n (kk := 0) (by decide +kernel) rfl ?_
  refine fg_1_7_1 rfl (by decide +kernel) ?_
  refine tq_s_i2l (by decide +kernel) ?_
  refine tq_s_ladd (by decide +kernel) ?_
  refine tq_g_lstore_n (kk := 3) (fun v1 => [.ref 1, .long a1, .null, .long v1, .null, .null, .null]) (by decide +kernel) (by decide) (fun _ => rfl) (fun v1 ev1 => ?_)
  replace h := h v1 ev1
  refine tq_s_ldc2 (v := (31 : Int64)) (by decide +kernel) (by decide +kernel) ?_
  refine tq_s_lload_n (kk := 3) (by decide +kernel) rfl ?_
  refine tq_s_lmul (by decide +kernel) ?_
  refine tq_s_aload_n (kk := 0) (by decide +kernel) rfl ?_
  refine fg_1_13_1 rfl (by decide +kernel) ?_
  refine tq_s_i2l (by decide +kernel) ?_
  refine tq_s_ladd (by decide +kernel) ?_
  refine tq_g_lstore_n (kk := 3) (fun v2 => [.ref 1, .long a1, .null, .long v2, .null, .null, .null]) (by decide +kernel) (by decide) (fun _ => rfl) (fun v2 ev2 => ?_)
  replace h := h v2 ev2
  refine tq_s_ldc2 (v := (31 : Int64)) (by decide +kernel) (by decide +kernel) ?_
  refine tq_s_lload_n (kk := 3) (by decide +kernel) rfl ?_
  refine tq_s_lmul (by decide +kernel) ?_
  refine tq_s_aload_n (kk := 0) (by decide +kernel) rfl ?_
  refine fg_1_16_1 rfl (by decide +kernel) ?_
  refine tq_if_eq (off := 7) (tgt := 40) (by decide +kernel) (by decide +kernel) (fun hc => ?_) (fun hc => ?_)
  · replace h := h.1 hc
    refine tq_k_ic (n := 0) (v := (0 : Int32)) (by decide +kernel) kc_0 ?_
    exact tq_to (tq_lk1 (tq_ld1 (tq_lk1 (tq_ld1 (tq_lk1 (tq_lk1 (tq_lk1 tq_l0))))))) (ac_X1_addTo_41 h)
  · replace h := h.2 hc
    refine tq_k_ic (n := 1) (v := (1 : Int32)) (by decide +kernel) kc_1 ?_
    refine tq_s_goto (off := 4) (tgt := 41) (by decide +kernel) (by decide +kernel) ?_
    exact tq_to (tq_lk1 (tq_ld1 (tq_lk1 (tq_ld1 (tq_lk1 (tq_lk1 (tq_lk1 tq_l0))))))) (ac_X1_addTo_41 h)
