def wm_X11_rolesAreSound  (z : tq_S) (Q : tq_O → tq_S → Prop) : Prop := wm_X9_refresh z (tq_wv fun z1 => wm_J13_bitCount_95d88 (tq_fl z1 1222) z1 (tq_wi fun r3 z2 => wm_J13_bitCount_95d88 (tq_fl z2 1221) z2 (tq_wi fun r5 z4 => wm_J13_bitCount_95d88 (tq_fl z4 1223) z4 (tq_wi fun r7 z6 => ((¬ r5 = (r3 - r7) → Q (.inl (some (.int (0 : Int32)))) z6) ∧ (r5 = (r3 - r7) → Q (.inl (some (.int (1 : Int32)))) z6))))))
theorem am_X11_rolesAreSound {K : Nat × (Nat → Int32)} {x : Nat} {z : tq_S} {Q : tq_O → tq_S → Prop}  (h : wm_X11_rolesAreSound z Q) : tq_M K 5 x mm_X11_rolesAreSound [.ref 0] z Q := by
  unfold wm_X11_rolesAreSound at h
  refine tq_enter (L := [.ref 0, .null]) mf_X11_rolesAreSound.1 rfl rfl (Nat.le_of_ble_eq_true rfl) ?_
  refine tq_s_aload_n (kk := 0) (by decide +kernel) rfl ?_
  refine fg_11_49_0 rfl (by decide +kernel) ?_
  refine tq_callVN (as := []) (st := []) (d1 := 4) (x1 := 0) (x2 := x) (by decide +kernel) ln_11_320 mf_X9_refresh rfl sh_19 rfl (by decide) np_X9_refresh rfl (Nat.le_of_ble_eq_true rfl) (by decide) (Nat.zero_add _).symm (tq_M_mono (am_X9_refresh h) ?_)
  refine tq_wv_e (fun z1 h => ?_)
  refine tq_s_aload_n (kk := 0) (by decide +kernel) rfl ?_
  refine fg_11_49_0 rfl (by decide +kernel) ?_
  refine fg_11_329_19 rfl (by decide +kernel) ?_
  refine tq_callS (as := [.long (tq_fl z1 1222)]) (st := []) (d1 := 0) (x1 := 0) (x2 := x) (by decide +kernel) ln_11_180 mf_J13_bitCount_95d88 rfl (by decide) np_J13_bitCount_95d88 rfl (Nat.le_of_ble_eq_true rfl) (by decide) (Nat.zero_add _).symm (tq_M_mono (am_J13_bitCount_95d88 h) ?_)
  refine tq_wi_e (fun r3 z2 h => ?_)
  refine tq_s_istore_n (kk := 1) (L9 := [.ref 0, .int r3]) (by decide +kernel) (by decide) rfl ?_
  refine tq_s_aload_n (kk := 0) (by decide +kernel) rfl ?_
  refine fg_11_49_0 rfl (by decide +kernel) ?_
  refine fg_11_323_19 rfl (by decide +kernel) ?_
  refine tq_callS (as := [.long (tq_fl z2 1221)]) (st := []) (d1 := 0) (x1 := 0) (x2 := x) (by decide +kernel) ln_11_180 mf_J13_bitCount_95d88 rfl (by decide) np_J13_bitCount_95d88 rfl (Nat.le_of_ble_eq_true rfl) (by decide) (Nat.zero_add _).symm (tq_M_mono (am_J13_bitCount_95d88 h) ?_)
  refine tq_wi_e (fun r5 z4 h => ?_)
  refine tq_s_iload_n (kk := 1) (by decide +kernel) rfl ?_
  refine tq_s_aload_n (kk := 0) (by decide +kernel) rfl ?_
  refine fg_11_49_0 rfl (by decide +kernel) ?_
  refine fg_11_332_19 rfl (by decide +kernel) ?_
  refine tq_callS (as := [.long (tq_fl z4 1223)]) (st := [.int r3, .int r5]) (d1 := 0) (x1 := 0) (x2 := x) (by decide +kernel) ln_11_180 mf_J13_bitCount_95d88 rfl (by decide) np_J13_bitCount_95d88 rfl (Nat.le_of_ble_eq_true rfl) (by decide) (Nat.zero_add _).symm (tq_M_mono (am_J13_bitCount_95d88 h) ?_)
  refine tq_wi_e (fun r7 z6 h => ?_)
  refine tq_s_isub (by decide +kernel) ?_
  refine tq_icmp_ne (off := 7) (tgt := 47) (by decide +kernel) (by decide +kernel) (fun hc => ?_) (fun hc => ?_)
  · replace h := h.1 hc
    refine tq_k_ic (n := 0) (v := (0 : Int32)) (by decide +kernel) kc_0 ?_
    exact tq_ret_z (st := []) (ty := .boolean) (by decide +kernel) (by decide +kernel) rfl h
  · replace h := h.2 hc
    refine tq_k_ic (n := 1) (v := (1 : Int32)) (by decide +kernel) kc_1 ?_
    refine tq_s_goto (off := 4) (tgt := 48) (by decide +kernel) (by decide +kernel) ?_
    exact tq_ret_z (st := []) (ty := .boolean) (by decide +kernel) (by decide +kernel) rfl h
def wb_J7_fill_53178_r3_5 (B5 : Int32 → tq_S → Prop) (Q : tq_O → tq_S → Prop) (a1 : Int32) (a2 : Int32) (a3 : Int32) (z : tq_S) : Prop := ((a3 ≤ a2 → Q (.inl none) z) ∧ (¬ a3 ≤ a2 → vp_in a2 64 ∧ ∀ z101 : tq_S, z101 = tq_sai z 32 (upd (tq_ai z 32) (Int32.toNatClampNeg a2) a1) → ∀ v102 : Int32, v102 = a2 + (1 : Int32) → B5 v102 z101))
def wc_J7_fill_53178_r3_5 (Q : tq_O → tq_S → Prop) (a1 : Int32) (a2 : Int32) (a3 : Int32) (z : tq_S) : Prop := tq_lp (σ := Int32 × tq_S) (fun B s => wb_J7_fill_53178_r3_5 (fun b2 z => B (b2, z)) Q a1 s.1 a3 s.2) (a2, z)
theorem ab_J7_fill_53178_r3_5 {K : Nat × (Nat → Int32)} {x : Nat} {Q : tq_O → tq_S → Prop} {B5 : Int32 → tq_S → Prop} {a1 : Int32} {a2 : Int32} {a3 : Int32} {z : tq_S} (hB5 : ∀ (b2 : Int32) (z : tq_S), B5 b2 z → tq_T K 0 x mm_J7_fill_53178 5 [.ref 32, .int a1, .int b2, .int a3] [] z Q) (h : wb_J7_fill_53178_r3_5 B5 Q a1 a2 a3 z) : tq_T K 0 x mm_J7_fill_53178 5 [.ref 32, .int a1, .int a2, .int a3] [] z Q := by
  unfold wb_J7_fill_53178_r3_5 at h
  refine tq_s_iload_n (kk := 2) (by decide +kernel) rfl ?_
  refine tq_s_iload_n (kk := 3) (by decide +kernel) rfl ?_
  refine tq_icmp_ge (off := 13) (tgt := 20) (by decide +kernel) (by decide +kernel) (fun hc => ?_) (fun hc => ?_)
  · replace h := h.1 hc
    exact tq_ret_v (st := []) (by decide +kernel) rfl h
  · replace h := h.2 hc
    refine tq_s_aload_n (kk := 0) (by decide +kernel) rfl ?_
    refine tq_s_iload_n (kk := 2) (by decide +kernel) rfl ?_
    refine tq_s_iload_n (kk := 1) (by decide +kernel) rfl ?_
    refine tq_g_iast (by decide +kernel) sh_32 h.1 (fun z101 ez101 => ?_)
    replace h := h.2 z101 ez101
    refine tq_g_iinc (i := 2) (fun v102 => [.ref 32, .int a1, .int v102, .int a3]) (by decide +kernel) rfl (1 : Int32) kc_1 (fun _ => rfl) (fun v102 ev102 => ?_)
    replace h := h v102 ev102
    refine tq_s_goto (off := -12) (tgt := 5) (by decide +kernel) (by decide +kernel) ?_
    exact hB5 _ _ h
theorem ac_J7_fill_53178_r3_5 {K : Nat × (Nat → Int32)} {x : Nat} {Q : tq_O → tq_S → Prop} {a1 : Int32} {a2 : Int32} {a3 : Int32} {z : tq_S} (h : wc_J7_fill_53178_r3_5 Q a1 a2 a3 z) : tq_T K 0 x mm_J7_fill_53178 5 [.ref 32, .int a1, .int a2, .int a3] [] z Q :=
  tq_lp_T (σ := Int32 × tq_S) (s := (a2, z)) (G := fun s => tq_T K 0 x mm_J7_fill_53178 5 [.ref 32, .int a1, .int s.1, .int a3] [] s.2 Q) (fun B hB s h => ab_J7_fill_53178_r3_5 (fun b2 z h => hB (b2, z) h) h) h
def wm_J7_fill_53178_r3 (a1 : Int32) (z : tq_S) (Q : tq_O → tq_S → Prop) : Prop := ∀ v1 : Int32, v1 = (Int32.ofNat 64) → wc_J7_fill_53178_r3_5 Q a1 (0 : Int32) v1 z
theorem am_J7_fill_53178_r3 {K : Nat × (Nat → Int32)} {x : Nat} {z : tq_S} {Q : tq_O → tq_S → Prop} {a1 : Int32} (h : wm_J7_fill_53178_r3 a1 z Q) : tq_M K 0 x mm_J7_fill_53178 [.ref 32, .int a1] z Q := by
  unfold wm_J7_fill_53178_r3 at h
  refine tq_enter (L := [.ref 32, .int a1, .null, .null]) mf_J7_fill_53178.1 rfl rfl (Nat.le_of_ble_eq_true rfl) ?_
  refine tq_k_ic (n := 0) (v := (0 : Int32)) (by decide +kernel) kc_0 ?_
  refine tq_s_istore_n (kk := 2) (L9 := [.ref 32, .int a1, .int (0 : Int32), .null]) (by decide +kernel) (by decide) rfl ?_
  refine tq_s_aload_n (kk := 0) (by decide +kernel) rfl ?_
  refine tq_s_alen (by decide +kernel) sh_32 (by decide) ?_
  refine tq_g_istore_n (kk := 3) (fun v1 => [.ref 32, .int a1, .int (0 : Int32), .int v1]) (by decide +kernel) (by decide) (fun _ => rfl) (fun v1 ev1 => ?_)
  replace h := h v1 ev1
  exact ac_J7_fill_53178_r3_5 h
def wc_X4_numberCells_76 (B15 : Int32 → tq_S → Prop) (Q : tq_O → tq_S → Prop) (a1 : Int32) (z : tq_S) : Prop := ∀ v101 : Int32, v101 = a1 + (1 : Int32) → B15 v101 z
theorem ac_X4_numberCells_76 {K : Nat × (Nat → Int32)} {x : Nat} {Q : tq_O → tq_S → Prop} {B15 : Int32 → tq_S → Prop} {a1 : Int32} {z : tq_S} (hB15 : ∀ (b1 : Int32) (z : tq_S), B15 b1 z → tq_T K 1 x mm_X4_numberCells 15 [.ref 28, .int b1] [] z Q) (h : wc_X4_numberCells_76 B15 Q a1 z) : tq_T K 1 x mm_X4_numberCells 76 [.ref 28, .int a1] [] z Q := by
  unfold wc_X4_numberCells_76 at h
  refine tq_g_iinc (i := 1) (fun v101 => [.ref 28, .int v101]) (by decide +kernel) rfl (1 : Int32) kc_1 (fun _ => rfl) (fun v101 ev101 => ?_)
  replace h := h v101 ev101
  refine tq_s_goto (off := -64) (tgt := 15) (by decide +kernel) (by decide +kernel) ?_
  exact hB15 _ _ h
def wb_X4_numberCells_15 (B15 : Int32 → tq_S → Prop) (Q : tq_O → tq_S → Prop) (a1 : Int32) (z : tq_S) : Prop := (((64 : Int32) ≤ a1 → Q (.inl none) z) ∧ (¬ (64 : Int32) ≤ a1 → (((((Int64.toUInt64 (tq_fl z 67)) >>> ((Int32.toInt64 a1).toUInt64 &&& Int64.toUInt64 63)).toInt64 &&& (1 : Int64)) = (0 : Int64) → wc_X4_numberCells_76 B15 Q a1 z) ∧ (¬ (((Int64.toUInt64 (tq_fl z 67)) >>> ((Int32.toInt64 a1).toUInt64 &&& Int64.toUInt64 63)).toInt64 &&& (1 : Int64)) = (0 : Int64) → (((24 : Int32) ≤ (tq_fi z 1804) → wc_X4_numberCells_76 B15 Q a1 z) ∧ (¬ (24 : Int32) ≤ (tq_fi z 1804) → vp_in (tq_fi z 1804) 24 ∧ ∀ z101 : tq_S, z101 = tq_sai z 31 (upd (tq_ai z 31) (Int32.toNatClampNeg (tq_fi z 1804)) a1) → vp_in a1 64 ∧ ∀ z102 : tq_S, z102 = tq_sai z101 32 (upd (tq_ai z101 32) (Int32.toNatClampNeg a1) (tq_fi z101 1804)) → ∀ z103 : tq_S, z103 = tq_sfi z102 1804 ((tq_fi z102 1804) + (1 : Int32)) → wc_X4_numberCells_76 B15 Q a1 z103))))))
def wc_X4_numberCells_15 (Q : tq_O → tq_S → Prop) (a1 : Int32) (z : tq_S) : Prop := tq_lp (σ := Int32 × tq_S) (fun B s => wb_X4_numberCells_15 (fun b1 z => B (b1, z)) Q s.1 s.2) (a1, z)
theorem ab_X4_numberCells_15 {K : Nat × (Nat → Int32)} {x : Nat} {Q : tq_O → tq_S → Prop} {B15 : Int32 → tq_S → Prop} {a1 : Int32} {z : tq_S} (hB15 : ∀ (b1 : Int32) (z : tq_S), B15 b1 z → tq_T K 1 x mm_X4_numberCells 15 [.ref 28, .int b1] [] z Q) (h : wb_X4_numberCells_15 B15 Q a1 z) : tq_T K 1 x mm_X4_numberCells 15 [.ref 28, .int a1] [] z Q := by
  unfold wb_X4_numberCells_15 at h
  refine tq_s_iload_n (kk := 1) (by decide +kernel) rfl ?_
  refine tq_k_bi (n := 64) (v := (64 : Int32)) (by decide +kernel) kb_64 ?_
  refine tq_icmp_ge (off := 64) (tgt := 82) (by decide +kernel) (by decide +kernel) (fun hc => ?_) (fun hc => ?_)
  · replace h := h.1 hc
    exact tq_ret_v (st := []) (by decide +kernel) rfl h
  · replace h := h.2 hc
    refine tq_s_aload_n (kk := 0) (by decide +kernel) rfl ?_
    refine fg_4_11_28 rfl (by decide +kernel) ?_
    refine fg_4_119_1 rfl (by decide +kernel) ?_
    refine tq_s_iload_n (kk := 1) (by decide +kernel) rfl ?_
    refine tq_s_lushr (by decide +kernel) ?_
    refine tq_k_lc (n := 1) (v := (1 : Int64)) (by decide +kernel) (by decide +kernel) ?_
    refine tq_s_land (by decide +kernel) ?_
    refine tq_k_lc (n := 0) (v := (0 : Int64)) (by decide +kernel) (by decide +kernel) ?_
    refine tq_lcmp_eq (off := 42) (tgt := 76) (by decide +kernel) (by decide +kernel) (by decide +kernel) (fun hc => ?_) (fun hc => ?_)
    · replace h := h.1 hc
      exact ac_X4_numberCells_76 hB15 h
    · replace h := h.2 hc
      refine tq_s_aload_n (kk := 0) (by decide +kernel) rfl ?_
      refine fg_4_84_28 rfl (by decide +kernel) ?_
      refine tq_k_bi (n := 24) (v := (24 : Int32)) (by decide +kernel) kb_24 ?_
      refine tq_icmp_ge (off := 33) (tgt := 76) (by decide +kernel) (by decide +kernel) (fun hc => ?_) (fun hc => ?_)
      · replace h := h.1 hc
        exact ac_X4_numberCells_76 hB15 h
      · replace h := h.2 hc
        refine tq_s_aload_n (kk := 0) (by decide +kernel) rfl ?_
        refine fg_4_27_28 rfl (by decide +kernel) ?_
        refine tq_s_aload_n (kk := 0) (by decide +kernel) rfl ?_
        refine fg_4_84_28 rfl (by decide +kernel) ?_
        refine tq_s_iload_n (kk := 1) (by decide +kernel) rfl ?_
        refine tq_g_iast (by decide +kernel) sh_31 h.1 (fun z101 ez101 => ?_)
        replace h := h.2 z101 ez101
        refine tq_s_aload_n (kk := 0) (by decide +kernel) rfl ?_
        refine fg_4_32_28 rfl (by decide +kernel) ?_
        refine tq_s_iload_n (kk := 1) (by decide +kernel) rfl ?_
        refine tq_s_aload_n (kk := 0) (by decide +kernel) rfl ?_
        refine fg_4_84_28 rfl (by decide +kernel) ?_
        refine tq_g_iast (by decide +kernel) sh_32 h.1 (fun z102 ez102 => ?_)
        replace h := h.2 z102 ez102
        refine tq_s_aload_n (kk := 0) (by decide +kernel) rfl ?_
        refine tq_s_dup (by decide +kernel) rfl ?_
        refine fg_4_84_28 rfl (by decide +kernel) ?_
        refine tq_k_ic (n := 1) (v := (1 : Int32)) (by decide +kernel) kc_1 ?_
        refine tq_s_iadd (by decide +kernel) ?_
        refine fp_4_84_28 rfl (by decide +kernel) (fun z103 ez103 => ?_)
        replace h := h z103 ez103
        exact ac_X4_numberCells_76 hB15 h
theorem ac_X4_numberCells_15 {K : Nat × (Nat → Int32)} {x : Nat} {Q : tq_O → tq_S → Prop} {a1 : Int32} {z : tq_S} (h : wc_X4_numberCells_15 Q a1 z) : tq_T K 1 x mm_X4_numberCells 15 [.ref 28, .int a1] [] z Q :=
  tq_lp_T (σ := Int32 × tq_S) (s := (a1, z)) (G := fun s => tq_T K 1 x mm_X4_numberCells 15 [.ref 28, .int s.1] [] s.2 Q) (fun B hB s h => ab_X4_numberCells_15 (fun b1 z h => hB (b1, z) h) h) h
def wm_X4_numberCells  (z : tq_S) (Q : tq_O → tq_S → Prop) : Prop := ∀ z1 : tq_S, z1 = tq_sfi z 1804 (0 : Int32) → wm_J7_fill_53178_r3 (-1 : Int32) z1 (tq_wv fun z2 => wc_X4_numberCells_15 Q (0 : Int32) z2)
theorem am_X4_numberCells {K : Nat × (Nat → Int32)} {x : Nat} {z : tq_S} {Q : tq_O → tq_S → Prop}  (h : wm_X4_numberCells z Q) : tq_M K 1 x mm_X4_numberCells [.ref 28] z Q := by
  unfold wm_X4_numberCells at h
  refine tq_enter (L := [.ref 28, .null]) mf_X4_numberCells.1 rfl rfl (Nat.le_of_ble_eq_true rfl) ?_
  refine tq_s_aload_n (kk := 0) (by decide +kernel) rfl ?_
  refine tq_k_ic (n := 0) (v := (0 : Int32)) (by decide +kernel) kc_0 ?_
  refine fp_4_84_28 rfl (by decide +kernel) (fun z1 ez1 => ?_)
  replace h := h z1 ez1
  refine tq_s_aload_n (kk := 0) (by decide +kernel) rfl ?_
  refine fg_4_32_28 rfl (by decide +kernel) ?_
  refine tq_k_ic (n := -1) (v := (-1 : Int32)) (by decide +kernel) kc_m1 ?_
  refine tq_callS (as := [.ref 32, .int (-1 : Int32)]) (st := []) (d1 := 0) (x1 := 0) (x2 := x) (by decide +kernel) ln_4_116 mf_J7_fill_53178 rfl (by decide) np_J7_fill_53178 rfl (Nat.le_of_ble_eq_true rfl) (by decide) (Nat.zero_add _).symm (tq_M_mono (am_J7_fill_53178_r3 h) ?_)
  refine tq_wv_e (fun z2 h => ?_)
  refine tq_k_ic (n := 0) (v := (0 : Int32)) (by decide +kernel) kc_0 ?_
  refine tq_s_istore_n (kk := 1) (L9 := [.ref 28, .int (0 : Int32)]) (by decide +kernel) (by decide) rfl ?_
  exact ac_X4_numberCells_15 h
def wc_X4_fillMoved_123 (B32 : Int32 → tq_S → Prop) (B89 : Int32 → Int32 → Int32 → tq_S → Prop) (Q : tq_O → tq_S → Prop) (a1 : Int32) (a2 : Int32) (a3 : Int32) (a5 : Int32) (a6 : Int32) (a7 : Int32) (s0 : Int32) (z : tq_S) : Prop := ∀ v101 : Int32, v101 = ((s0 - (1 : Int32)) - a5) → ∀ v102 : Int32, v102 = a6 + (1 : Int32) → B89 v101 a7 v102 z
theorem ac_X4_fillMoved_123 {K : Nat × (Nat → Int32)} {x : Nat} {Q : tq_O → tq_S → Prop} {B32 : Int32 → tq_S → Prop} {B89 : Int32 → Int32 → Int32 → tq_S → Prop} {a1 : Int32} {a2 : Int32} {a3 : Int32} {a5 : Int32} {a6 : Int32} {a7 : Int32} {s0 : Int32} {z : tq_S} (hB32 : ∀ (b3 : Int32) (z : tq_S), B32 b3 z → tq_T K 1 x mm_X4_fillMoved 32 [.ref 28, .int a1, .int a2, .int b3, .null, .null, .null, .null] [] z Q) (hB89 : ∀ (b4 : Int32) (b5 : Int32) (b6 : Int32) (z : tq_S), B89 b4 b5 b6 z → tq_T K 1 x mm_X4_fillMoved 89 [.ref 28, .int a1, .int a2, .int a3, .int b4, .int b5, .int b6, .null] [] z Q) (h : wc_X4_fillMoved_123 B32 B89 Q a1 a2 a3 a5 a6 a7 s0 z) : tq_T K 1 x mm_X4_fillMoved 123 [.ref 28, .int a1, .int a2, .int a3, .null, .int a5, .int a6, .int a7] [.int s0] z Q := by
  unfold wc_X4_fillMoved_123 at h
  refine tq_k_ic (n := 1) (v := (1 : Int32)) (by decide +kernel) kc_1 ?_
  refine tq_s_isub (by decide +kernel) ?_
  refine tq_s_iload (i := 5) (by decide +kernel) rfl ?_
  refine tq_s_isub (by decide +kernel) ?_
  refine tq_g_istore (i := 4) (fun v101 => [.ref 28, .int a1, .int a2, .int a3, .int v101, .int a5, .int a6, .int a7]) (by decide +kernel) (by decide) (fun _ => rfl) (fun v101 ev101 => ?_)
  replace h := h v101 ev101
  refine tq_s_iload (i := 7) (by decide +kernel) rfl ?_
  refine tq_s_istore (i := 5) (L9 := [.ref 28, .int a1, .int a2, .int a3, .int v101, .int a7, .int a6, .int a7]) (by decide +kernel) (by decide) rfl ?_
  refine tq_g_iinc (i := 6) (fun v102 => [.ref 28, .int a1, .int a2, .int a3, .int v101, .int a7, .int v102, .int a7]) (by decide +kernel) rfl (1 : Int32) kc_1 (fun _ => rfl) (fun v102 ev102 => ?_)
  replace h := h v102 ev102
  refine tq_s_goto (off := -48) (tgt := 89) (by decide +kernel) (by decide +kernel) ?_
  exact tq_to (tq_lk1 (tq_lk1 (tq_lk1 (tq_lk1 (tq_lk1 (tq_lk1 (tq_lk1 (tq_ld1 tq_l0)))))))) (hB89 _ _ _ _ h)
def wc_X4_fillMoved_140 (B32 : Int32 → tq_S → Prop) (Q : tq_O → tq_S → Prop) (a1 : Int32) (a2 : Int32) (a3 : Int32) (a4 : Int32) (a5 : Int32) (z : tq_S) : Prop := wm_X1_holds a4 a5 z (tq_wi fun r102 z101 => ((¬ r102 = 0 → vp_in (((8 : Int32) * a5) + a4) 64 ∧ vp_in ((a1 * (24 : Int32)) + a3) 192 ∧ ∀ z103 : tq_S, z103 = tq_sai z101 33 (upd (tq_ai z101 33) (Int32.toNatClampNeg ((a1 * (24 : Int32)) + a3)) (tq_ai z101 32 (Int32.toNatClampNeg (((8 : Int32) * a5) + a4)))) → ∀ v104 : Int32, v104 = a3 + (1 : Int32) → B32 v104 z103) ∧ (r102 = 0 → Q (.inl (some (.int (0 : Int32)))) z101)))
theorem ac_X4_fillMoved_140 {K : Nat × (Nat → Int32)} {x : Nat} {Q : tq_O → tq_S → Prop} {B32 : Int32 → tq_S → Prop} {a1 : Int32} {a2 : Int32} {a3 : Int32} {a4 : Int32} {a5 : Int32} {z : tq_S} (hB32 : ∀ (b3 : Int32) (z : tq_S), B32 b3 z → tq_T K 1 x mm_X4_fillMoved 32 [.ref 28, .int a1, .int a2, .int b3, .null, .null, .null, .null] [] z Q) (h : wc_X4_fillMoved_140 B32 Q a1 a2 a3 a4 a5 z) : tq_T K 1 x mm_X4_fillMoved 140 [.ref 28, .int a1, .int a2, .int a3, .int a4, .int a5, .null, .null] [] z Q := by
  unfold wc_X4_fillMoved_140 at h
  refine tq_s_aload_n (kk := 0) (by decide +kernel) rfl ?_
  refine fg_4_11_28 rfl (by decide +kernel) ?_
  refine tq_s_iload (i := 4) (by decide +kernel) rfl ?_
  refine tq_s_iload (i := 5) (by decide +kernel) rfl ?_
  refine tq_callVN (as := [.int a4, .int a5]) (st := []) (d1 := 0) (x1 := 0) (x2 := x) (by decide +kernel) ln_4_136 mf_X1_holds rfl sh_1 rfl (by decide) np_X1_holds rfl (Nat.le_of_ble_eq_true rfl) (by decide) (Nat.zero_add _).symm (tq_M_mono (am_X1_holds h) ?_)
  refine tq_wi_e (fun r102 z101 h => ?_)
  refine tq_if_ne (off := 5) (tgt := 156) (by decide +kernel) (by decide +kernel) (fun hc => ?_) (fun hc => ?_)
  · replace h := h.1 hc
    refine tq_s_aload_n (kk := 0) (by decide +kernel) rfl ?_
    refine fg_4_37_28 rfl (by decide +kernel) ?_
    refine tq_s_iload_n (kk := 1) (by decide +kernel) rfl ?_
    refine tq_k_bi (n := 24) (v := (24 : Int32)) (by decide +kernel) kb_24 ?_
    refine tq_s_imul (by decide +kernel) ?_
    refine tq_s_iload_n (kk := 3) (by decide +kernel) rfl ?_
    refine tq_s_iadd (by decide +kernel) ?_
    refine tq_s_aload_n (kk := 0) (by decide +kernel) rfl ?_
    refine fg_4_32_28 rfl (by decide +kernel) ?_
    refine tq_k_bi (n := 8) (v := (8 : Int32)) (by decide +kernel) kb_8 ?_
    refine tq_s_iload (i := 5) (by decide +kernel) rfl ?_
    refine tq_s_imul (by decide +kernel) ?_
    refine tq_s_iload (i := 4) (by decide +kernel) rfl ?_
    refine tq_s_iadd (by decide +kernel) ?_
    refine tq_s_iald (by decide +kernel) sh_32 h.1 ?_
    replace h := h.2
    refine tq_g_iast (by decide +kernel) sh_33 h.1 (fun z103 ez103 => ?_)
    replace h := h.2 z103 ez103
    refine tq_g_iinc (i := 3) (fun v104 => [.ref 28, .int a1, .int a2, .int v104, .int a4, .int a5, .null, .null]) (by decide +kernel) rfl (1 : Int32) kc_1 (fun _ => rfl) (fun v104 ev104 => ?_)
    replace h := h v104 ev104
    refine tq_s_goto (off := -151) (tgt := 32) (by decide +kernel) (by decide +kernel) ?_
    exact tq_to (tq_lk1 (tq_lk1 (tq_lk1 (tq_lk1 (tq_ld1 (tq_ld1 (tq_lk1 (tq_lk1 tq_l0)))))))) (hB32 _ _ h)
  · replace h := h.2 hc
    refine tq_k_ic (n := 0) (v := (0 : Int32)) (by decide +kernel) kc_0 ?_
    exact tq_ret_z (st := []) (ty := .boolean) (by decide +kernel) (by decide +kernel) rfl h
def wb_X4_fillMoved_89 (B32 : Int32 → tq_S → Prop) (B89 : Int32 → Int32 → Int32 → tq_S → Prop) (Q : tq_O → tq_S → Prop) (a1 : Int32) (a2 : Int32) (a3 : Int32) (a4 : Int32) (a5 : Int32) (a6 : Int32) (z : tq_S) : Prop := ((a2 ≤ a6 → wc_X4_fillMoved_140 B32 Q a1 a2 a3 a4 a5 z) ∧ (¬ a2 ≤ a6 → ((¬ (a6 - a6 / (2 : Int32) * (2 : Int32)) = 0 → wc_X4_fillMoved_123 B32 B89 Q a1 a2 a3 a5 a6 a4 (tq_fi z 64) z) ∧ ((a6 - a6 / (2 : Int32) * (2 : Int32)) = 0 → wc_X4_fillMoved_123 B32 B89 Q a1 a2 a3 a5 a6 a4 (tq_fi z 65) z))))
def wc_X4_fillMoved_89 (B32 : Int32 → tq_S → Prop) (Q : tq_O → tq_S → Prop) (a1 : Int32) (a2 : Int32) (a3 : Int32) (a4 : Int32) (a5 : Int32) (a6 : Int32) (z : tq_S) : Prop := tq_lp (σ := Int32 × Int32 × Int32 × tq_S) (fun B s => wb_X4_fillMoved_89 B32 (fun b4 b5 b6 z => B (b4, b5, b6, z)) Q a1 a2 a3 s.1 s.2.1 s.2.2.1 s.2.2.2) (a4, a5, a6, z)
theorem ab_X4_fillMoved_89 {K : Nat × (Nat → Int32)} {x : Nat} {Q : tq_O → tq_S → Prop} {B32 : Int32 → tq_S → Prop} {B89 : Int32 → Int32 → Int32 → tq_S → Prop} {a1 : Int32} {a2 : Int32} {a3 : Int32} {a4 : Int32} {a5 : Int32} {a6 : Int32} {z : tq_S} (hB32 : ∀ (b3 : Int32) (z : tq_S), B32 b3 z → tq_T K 1 x mm_X4_fillMoved 32 [.ref 28, .int a1, .int a2, .int b3, .null, .null, .null, .null] [] z Q) (hB89 : ∀ (b4 : Int32) (b5 : Int32) (b6 : Int32) (z : tq_S), B89 b4 b5 b6 z → tq_T K 1 x mm_X4_fillMoved 89 [.ref 28, .int a1, .int a2, .int a3, .int b4, .int b5, .int b6, .null] [] z Q) (h : wb_X4_fillMoved_89 B32 B89 Q a1 a2 a3 a4 a5 a6 z) : tq_T K 1 x mm_X4_fillMoved 89 [.ref 28, .int a1, .int a2, .int a3, .int a4, .int a5, .int a6, .null] [] z Q := by
  unfold wb_X4_fillMoved_89 at h
  refine tq_s_iload (i := 6) (by decide +kernel) rfl ?_
  refine tq_s_iload_n (kk := 2) (by decide +kernel) rfl ?_
  refine tq_icmp_ge (off := 48) (tgt := 140) (by decide +kernel) (by decide +kernel) (fun hc => ?_) (fun hc => ?_)
  · replace h := h.1 hc
    exact tq_to (tq_lk1 (tq_lk1 (tq_lk1 (tq_lk1 (tq_lk1 (tq_lk1 (tq_ld1 (tq_lk1 tq_l0)))))))) (ac_X4_fillMoved_140 hB32 h)
  · replace h := h.2 hc
    refine tq_s_iload (i := 4) (by decide +kernel) rfl ?_
    refine tq_s_istore (i := 7) (L9 := [.ref 28, .int a1, .int a2, .int a3, .int a4, .int a5, .int a6, .int a4]) (by decide +kernel) (by decide) rfl ?_
    refine tq_s_iload (i := 6) (by decide +kernel) rfl ?_
    refine tq_k_ic (n := 2) (v := (2 : Int32)) (by decide +kernel) kc_2 ?_
    refine tq_s_irem (by decide +kernel) (by decide +kernel) ?_
    refine tq_if_ne (off := 13) (tgt := 116) (by decide +kernel) (by decide +kernel) (fun hc => ?_) (fun hc => ?_)
    · replace h := h.1 hc
      refine tq_s_aload_n (kk := 0) (by decide +kernel) rfl ?_
      refine fg_4_11_28 rfl (by decide +kernel) ?_
      refine fg_4_130_1 rfl (by decide +kernel) ?_
      exact tq_to (tq_lk1 (tq_lk1 (tq_lk1 (tq_lk1 (tq_ld1 (tq_lk1 (tq_lk1 (tq_lk1 tq_l0)))))))) (ac_X4_fillMoved_123 hB32 hB89 h)
    · replace h := h.2 hc
      refine tq_s_aload_n (kk := 0) (by decide +kernel) rfl ?_
      refine fg_4_11_28 rfl (by decide +kernel) ?_
      refine fg_4_133_1 rfl (by decide +kernel) ?_
      refine tq_s_goto (off := 10) (tgt := 123) (by decide +kernel) (by decide +kernel) ?_
      exact tq_to (tq_lk1 (tq_lk1 (tq_lk1 (tq_lk1 (tq_ld1 (tq_lk1 (tq_lk1 (tq_lk1 tq_l0)))))))) (ac_X4_fillMoved_123 hB32 hB89 h)
theorem ac_X4_fillMoved_89 {K : Nat × (Nat → Int32)} {x : Nat} {Q : tq_O → tq_S → Prop} {B32 : Int32 → tq_S → Prop} {a1 : Int32} {a2 : Int32} {a3 : Int32} {a4 : Int32} {a5 : Int32} {a6 : Int32} {z : tq_S} (hB32 : ∀ (b3 : Int32) (z : tq_S), B32 b3 z → tq_T K 1 x mm_X4_fillMoved 32 [.ref 28, .int a1, .int a2, .int b3, .null, .null, .null, .null] [] z Q) (h : wc_X4_fillMoved_89 B32 Q a1 a2 a3 a4 a5 a6 z) : tq_T K 1 x mm_X4_fillMoved 89 [.ref 28, .int a1, .int a2, .int a3, .int a4, .int a5, .int a6, .null] [] z Q :=
  tq_lp_T (σ := Int32 × Int32 × Int32 × tq_S) (s := (a4, a5, a6, z)) (G := fun s => tq_T K 1 x mm_X4_fillMoved 89 [.ref 28, .int a1, .int a2, .int a3, .int s.1, .int s.2.1, .int s.2.2.1, .null] [] s.2.2.2 Q) (fun B hB s h => ab_X4_fillMoved_89 hB32 (fun b4 b5 b6 z h => hB (b4, b5, b6, z) h) h) h
def wc_X4_fillMoved_84 (B32 : Int32 → tq_S → Prop) (Q : tq_O → tq_S → Prop) (a1 : Int32) (a2 : Int32) (a3 : Int32) (a5 : Int32) (s0 : Int32) (z : tq_S) : Prop := wc_X4_fillMoved_89 B32 Q a1 a2 a3 s0 a5 (0 : Int32) z
theorem ac_X4_fillMoved_84 {K : Nat × (Nat → Int32)} {x : Nat} {Q : tq_O → tq_S → Prop} {B32 : Int32 → tq_S → Prop} {a1 : Int32} {a2 : Int32} {a3 : Int32} {a5 : Int32} {s0 : Int32} {z : tq_S} (hB32 : ∀ (b3 : Int32) (z : tq_S), B32 b3 z → tq_T K 1 x mm_X4_fillMoved 32 [.ref 28, .int a1, .int a2, .int b3, .null, .null, .null, .null] [] z Q) (h : wc_X4_fillMoved_84 B32 Q a1 a2 a3 a5 s0 z) : tq_T K 1 x mm_X4_fillMoved 84 [.ref 28, .int a1, .int a2, .int a3, .null, .int a5, .null, .null] [.int s0] z Q := by
  unfold wc_X4_fillMoved_84 at h
  refine tq_s_istore (i := 4) (L9 := [.ref 28, .int a1, .int a2, .int a3, .int s0, .int a5, .null, .null]) (by decide +kernel) (by decide) rfl ?_
  refine tq_k_ic (n := 0) (v := (0 : Int32)) (by decide +kernel) kc_0 ?_
  refine tq_s_istore (i := 6) (L9 := [.ref 28, .int a1, .int a2, .int a3, .int s0, .int a5, .int (0 : Int32), .null]) (by decide +kernel) (by decide) rfl ?_
  exact ac_X4_fillMoved_89 hB32 h
def wb_X4_fillMoved_32 (B32 : Int32 → tq_S → Prop) (Q : tq_O → tq_S → Prop) (a1 : Int32) (a2 : Int32) (a3 : Int32) (z : tq_S) : Prop := (((tq_fi z 1804) ≤ a3 → Q (.inl (some (.int (1 : Int32)))) z) ∧ (¬ (tq_fi z 1804) ≤ a3 → vp_in a3 24 ∧ ∀ v101 : Int32, v101 = ((tq_ai z 31 (Int32.toNatClampNeg a3)) - (tq_ai z 31 (Int32.toNatClampNeg a3)) / (8 : Int32) * (8 : Int32)) → vp_in a3 24 ∧ ∀ v102 : Int32, v102 = ((tq_ai z 31 (Int32.toNatClampNeg a3)) / (8 : Int32)) → ((a1 < (4 : Int32) → wc_X4_fillMoved_84 B32 Q a1 a2 a3 v102 v101 z) ∧ (¬ a1 < (4 : Int32) → wc_X4_fillMoved_84 B32 Q a1 a2 a3 v102 (((tq_fi z 64) - (1 : Int32)) - v101) z))))
def wc_X4_fillMoved_32 (Q : tq_O → tq_S → Prop) (a1 : Int32) (a2 : Int32) (a3 : Int32) (z : tq_S) : Prop := tq_lp (σ := Int32 × tq_S) (fun B s => wb_X4_fillMoved_32 (fun b3 z => B (b3, z)) Q a1 a2 s.1 s.2) (a3, z)
theorem ab_X4_fillMoved_32 {K : Nat × (Nat → Int32)} {x : Nat} {Q : tq_O → tq_S → Prop} {B32 : Int32 → tq_S → Prop} {a1 : Int32} {a2 : Int32} {a3 : Int32} {z : tq_S} (hB32 : ∀ (b3 : Int32) (z : tq_S), B32 b3 z → tq_T K 1 x mm_X4_fillMoved 32 [.ref 28, .int a1, .int a2, .int b3, .null, .null, .null, .null] [] z Q) (h : wb_X4_fillMoved_32 B32 Q a1 a2 a3 z) : tq_T K 1 x mm_X4_fillMoved 32 [.ref 28, .int a1, .int a2, .int a3, .null, .null, .null, .null] [] z Q := by
  unfold wb_X4_fillMoved_32 at h
  refine tq_s_iload_n (kk := 3) (by decide +kernel) rfl ?_
  refine tq_s_aload_n (kk := 0) (by decide +kernel) rfl ?_
  refine fg_4_84_28 rfl (by decide +kernel) ?_
  refine tq_icmp_ge (off := 149) (tgt := 186) (by decide +kernel) (by decide +kernel) (fun hc => ?_) (fun hc => ?_)
  · replace h := h.1 hc
    refine tq_k_ic (n := 1) (v := (1 : Int32)) (by decide +kernel) kc_1 ?_
    exact tq_ret_z (st := []) (ty := .boolean) (by decide +kernel) (by decide +kernel) rfl h
  · replace h := h.2 hc
    refine tq_s_aload_n (kk := 0) (by decide +kernel) rfl ?_
    refine fg_4_27_28 rfl (by decide +kernel) ?_
    refine tq_s_iload_n (kk := 3) (by decide +kernel) rfl ?_
    refine tq_s_iald (by decide +kernel) sh_31 h.1 ?_
    replace h := h.2
    refine tq_k_bi (n := 8) (v := (8 : Int32)) (by decide +kernel) kb_8 ?_
    refine tq_s_irem (by decide +kernel) (by decide +kernel) ?_
    refine tq_g_istore (i := 4) (fun v101 => [.ref 28, .int a1, .int a2, .int a3, .int v101, .null, .null, .null]) (by decide +kernel) (by decide) (fun _ => rfl) (fun v101 ev101 => ?_)
    replace h := h v101 ev101
    refine tq_s_aload_n (kk := 0) (by decide +kernel) rfl ?_
    refine fg_4_27_28 rfl (by decide +kernel) ?_
    refine tq_s_iload_n (kk := 3) (by decide +kernel) rfl ?_
    refine tq_s_iald (by decide +kernel) sh_31 h.1 ?_
    replace h := h.2
    refine tq_k_bi (n := 8) (v := (8 : Int32)) (by decide +kernel) kb_8 ?_
    refine tq_s_idiv (by decide +kernel) (by decide +kernel) ?_
    refine tq_g_istore (i := 5) (fun v102 => [.ref 28, .int a1, .int a2, .int a3, .int v101, .int v102, .null, .null]) (by decide +kernel) (by decide) (fun _ => rfl) (fun v102 ev102 => ?_)
    replace h := h v102 ev102
    refine tq_s_iload_n (kk := 1) (by decide +kernel) rfl ?_
    refine tq_k_ic (n := 4) (v := (4 : Int32)) (by decide +kernel) kc_4 ?_
    refine tq_icmp_lt (off := 18) (tgt := 82) (by decide +kernel) (by decide +kernel) (fun hc => ?_) (fun hc => ?_)
    · replace h := h.1 hc
      refine tq_s_iload (i := 4) (by decide +kernel) rfl ?_
      exact tq_to (tq_lk1 (tq_lk1 (tq_lk1 (tq_lk1 (tq_ld1 (tq_lk1 (tq_lk1 (tq_lk1 tq_l0)))))))) (ac_X4_fillMoved_84 hB32 h)
    · replace h := h.2 hc
      refine tq_s_aload_n (kk := 0) (by decide +kernel) rfl ?_
      refine fg_4_11_28 rfl (by decide +kernel) ?_
      refine fg_4_130_1 rfl (by decide +kernel) ?_
      refine tq_k_ic (n := 1) (v := (1 : Int32)) (by decide +kernel) kc_1 ?_
      refine tq_s_isub (by decide +kernel) ?_
      refine tq_s_iload (i := 4) (by decide +kernel) rfl ?_
      refine tq_s_isub (by decide +kernel) ?_
      refine tq_s_goto (off := 5) (tgt := 84) (by decide +kernel) (by decide +kernel) ?_
      exact tq_to (tq_lk1 (tq_lk1 (tq_lk1 (tq_lk1 (tq_ld1 (tq_lk1 (tq_lk1 (tq_lk1 tq_l0)))))))) (ac_X4_fillMoved_84 hB32 h)
theorem ac_X4_fillMoved_32 {K : Nat × (Nat → Int32)} {x : Nat} {Q : tq_O → tq_S → Prop} {a1 : Int32} {a2 : Int32} {a3 : Int32} {z : tq_S} (h : wc_X4_fillMoved_32 Q a1 a2 a3 z) : tq_T K 1 x mm_X4_fillMoved 32 [.ref 28, .int a1, .int a2, .int a3, .null, .null, .null, .null] [] z Q :=
  tq_lp_T (σ := Int32 × tq_S) (s := (a3, z)) (G := fun s => tq_T K 1 x mm_X4_fillMoved 32 [.ref 28, .int a1, .int a2, .int s.1, .null, .null, .null, .null] [] s.2 Q) (fun B hB s h => ab_X4_fillMoved_32 (fun b3 z h => hB (b3, z) h) h) h
def wc_X4_fillMoved_30 (Q : tq_O → tq_S → Prop) (a1 : Int32) (a2 : Int32) (z : tq_S) : Prop := wc_X4_fillMoved_32 Q a1 a2 (0 : Int32) z
theorem ac_X4_fillMoved_30 {K : Nat × (Nat → Int32)} {x : Nat} {Q : tq_O → tq_S → Prop} {a1 : Int32} {a2 : Int32} {z : tq_S} (h : wc_X4_fillMoved_30 Q a1 a2 z) : tq_T K 1 x mm_X4_fillMoved 30 [.ref 28, .int a1, .int a2, .null, .null, .null, .null, .null] [] z Q := by
  unfold wc_X4_fillMoved_30 at h
  refine tq_k_ic (n := 0) (v := (0 : Int32)) (by decide +kernel) kc_0 ?_
  refine tq_s_istore_n (kk := 3) (L9 := [.ref 28, .int a1, .int a2, .int (0 : Int32), .null, .null, .null, .null]) (by decide +kernel) (by decide) rfl ?_
  exact ac_X4_fillMoved_32 h
def wm_X4_fillMoved (a1 : Int32) (z : tq_S) (Q : tq_O → tq_S → Prop) : Prop := ∀ v1 : Int32, v1 = (a1 - a1 / (4 : Int32) * (4 : Int32)) → ((¬ (v1 - v1 / (2 : Int32) * (2 : Int32)) = (1 : Int32) → wc_X4_fillMoved_30 Q a1 v1 z) ∧ ((v1 - v1 / (2 : Int32) * (2 : Int32)) = (1 : Int32) → (((tq_fi z 64) = (tq_fi z 65) → wc_X4_fillMoved_30 Q a1 v1 z) ∧ (¬ (tq_fi z 64) = (tq_fi z 65) → Q (.inl (some (.int (0 : Int32)))) z))))
theorem am_X4_fillMoved {K : Nat × (Nat → Int32)} {x : Nat} {z : tq_S} {Q : tq_O → tq_S → Prop} {a1 : Int32} (h : wm_X4_fillMoved a1 z Q) : tq_M K 1 x mm_X4_fillMoved [.ref 28, .int a1] z Q := by
  unfold wm_X4_fillMoved at h
  refine tq_enter (L := [.ref 28, .int a1, .null, .null, .null, .null, .null, .null]) mf_X4_fillMoved.1 rfl rfl (Nat.le_of_ble_eq_true rfl) ?_
  refine tq_s_iload_n (kk := 1) (by decide +kernel) rfl ?_
  refine tq_k_ic (n := 4) (v := (4 : Int32)) (by decide +kernel) kc_4 ?_
  refine tq_s_irem (by decide +kernel) (by decide +kernel) ?_
  refine tq_g_istore_n (kk := 2) (fun v1 => [.ref 28, .int a1, .int v1, .null, .null, .null, .null, .null]) (by decide +kernel) (by decide) (fun _ => rfl) (fun v1 ev1 => ?_)
  replace h := h v1 ev1
  refine tq_s_iload_n (kk := 2) (by decide +kernel) rfl ?_
  refine tq_k_ic (n := 2) (v := (2 : Int32)) (by decide +kernel) kc_2 ?_
  refine tq_s_irem (by decide +kernel) (by decide +kernel) ?_
  refine tq_k_ic (n := 1) (v := (1 : Int32)) (by decide +kernel) kc_1 ?_
  refine tq_icmp_ne (off := 22) (tgt := 30) (by decide +kernel) (by decide +kernel) (fun hc => ?_) (fun hc => ?_)
  · replace h := h.1 hc
    exact ac_X4_fillMoved_30 h
  · replace h := h.2 hc
    refine tq_s_aload_n (kk := 0) (by decide +kernel) rfl ?_
    refine fg_4_11_28 rfl (by decide +kernel) ?_
    refine fg_4_130_1 rfl (by decide +kernel) ?_
    refine tq_s_aload_n (kk := 0) (by decide +kernel) rfl ?_
    refine fg_4_11_28 rfl (by decide +kernel) ?_
    refine fg_4_133_1 rfl (by decide +kernel) ?_
    refine tq_icmp_eq (off := 5) (tgt := 30) (by decide +kernel) (by decide +kernel) (fun hc => ?_) (fun hc => ?_)
    · replace h := h.1 hc
      exact ac_X4_fillMoved_30 h
    · replace h := h.2 hc
      refine tq_k_ic (n := 0) (v := (0 : Int32)) (by decide +kernel) kc_0 ?_
      exact tq_ret_z (st := []) (ty := .boolean) (by decide +kernel) (by decide +kernel) rfl h
def wc_X4_findGroup_43 (B7 : Int32 → tq_S → Prop) (Q : tq_O → tq_S → Prop) (a1 : Int32) (z : tq_S) : Prop := ∀ v101 : Int32, v101 = a1 + (1 : Int32) → B7 v101 z
theorem ac_X4_findGroup_43 {K : Nat × (Nat → Int32)} {x : Nat} {Q : tq_O → tq_S → Prop} {B7 : Int32 → tq_S → Prop} {a1 : Int32} {z : tq_S} (hB7 : ∀ (b1 : Int32) (z : tq_S), B7 b1 z → tq_T K 2 x mm_X4_findGroup 7 [.ref 28, .int b1] [] z Q) (h : wc_X4_findGroup_43 B7 Q a1 z) : tq_T K 2 x mm_X4_findGroup 43 [.ref 28, .int a1] [] z Q := by
  unfold wc_X4_findGroup_43 at h
  refine tq_g_iinc (i := 1) (fun v101 => [.ref 28, .int v101]) (by decide +kernel) rfl (1 : Int32) kc_1 (fun _ => rfl) (fun v101 ev101 => ?_)
  replace h := h v101 ev101
  refine tq_s_goto (off := -39) (tgt := 7) (by decide +kernel) (by decide +kernel) ?_
  exact hB7 _ _ h
def wb_X4_findGroup_7 (B7 : Int32 → tq_S → Prop) (Q : tq_O → tq_S → Prop) (a1 : Int32) (z : tq_S) : Prop := (((8 : Int32) ≤ a1 → Q (.inl none) z) ∧ (¬ (8 : Int32) ≤ a1 → wm_X4_fillMoved a1 z (tq_wi fun r102 z101 => ((r102 = 0 → wc_X4_findGroup_43 B7 Q a1 z101) ∧ (¬ r102 = 0 → ((¬ (tq_fi z101 66) = 0 → wc_X4_findGroup_43 B7 Q a1 z101) ∧ ((tq_fi z101 66) = 0 → ∀ z103 : tq_S, z103 = tq_sfi z101 1806 ((tq_fi z101 1806) ||| ((1 : Int32) <<< (a1 &&& 31))) → wc_X4_findGroup_43 B7 Q a1 z103)))))))
def wc_X4_findGroup_7 (Q : tq_O → tq_S → Prop) (a1 : Int32) (z : tq_S) : Prop := tq_lp (σ := Int32 × tq_S) (fun B s => wb_X4_findGroup_7 (fun b1 z => B (b1, z)) Q s.1 s.2) (a1, z)
theorem ab_X4_findGroup_7 {K : Nat × (Nat → Int32)} {x : Nat} {Q : tq_O → tq_S → Prop} {B7 : Int32 → tq_S → Prop} {a1 : Int32} {z : tq_S} (hB7 : ∀ (b1 : Int32) (z : tq_S), B7 b1 z → tq_T K 2 x mm_X4_findGroup 7 [.ref 28, .int b1] [] z Q) (h : wb_X4_findGroup_7 B7 Q a1 z) : tq_T K 2 x mm_X4_findGroup 7 [.ref 28, .int a1] [] z Q := by
  unfold wb_X4_findGroup_7 at h
  refine tq_s_iload_n (kk := 1) (by decide +kernel) rfl ?_
  refine tq_k_bi (n := 8) (v := (8 : Int32)) (by decide +kernel) kb_8 ?_
  refine tq_icmp_ge (off := 39) (tgt := 49) (by decide +kernel) (by decide +kernel) (fun hc => ?_) (fun hc => ?_)
  · replace h := h.1 hc
    exact tq_ret_v (st := []) (by decide +kernel) rfl h
  · replace h := h.2 hc
    refine tq_s_aload_n (kk := 0) (by decide +kernel) rfl ?_
    refine tq_s_iload_n (kk := 1) (by decide +kernel) rfl ?_
    refine tq_callV (as := [.int a1]) (st := []) (d1 := 1) (x1 := 0) (x2 := x) (by decide +kernel) ln_4_122 mf_X4_fillMoved rfl sh_28 rfl (by decide) np_X4_fillMoved rfl (Nat.le_of_ble_eq_true rfl) (by decide) (Nat.zero_add _).symm (tq_M_mono (am_X4_fillMoved h) ?_)
    refine tq_wi_e (fun r102 z101 h => ?_)
    refine tq_if_eq (off := 25) (tgt := 43) (by decide +kernel) (by decide +kernel) (fun hc => ?_) (fun hc => ?_)
    · replace h := h.1 hc
      exact ac_X4_findGroup_43 hB7 h
    · replace h := h.2 hc
      refine tq_s_aload_n (kk := 0) (by decide +kernel) rfl ?_
      refine fg_4_11_28 rfl (by decide +kernel) ?_
      refine fg_4_126_1 rfl (by decide +kernel) ?_
      refine tq_if_ne (off := 15) (tgt := 43) (by decide +kernel) (by decide +kernel) (fun hc => ?_) (fun hc => ?_)
      · replace h := h.1 hc
        exact ac_X4_findGroup_43 hB7 h
      · replace h := h.2 hc
        refine tq_s_aload_n (kk := 0) (by decide +kernel) rfl ?_
        refine tq_s_dup (by decide +kernel) rfl ?_
        refine fg_4_111_28 rfl (by decide +kernel) ?_
        refine tq_k_ic (n := 1) (v := (1 : Int32)) (by decide +kernel) kc_1 ?_
        refine tq_s_iload_n (kk := 1) (by decide +kernel) rfl ?_
        refine tq_s_ishl (by decide +kernel) ?_
        refine tq_s_ior (by decide +kernel) ?_
        refine fp_4_111_28 rfl (by decide +kernel) (fun z103 ez103 => ?_)
        replace h := h z103 ez103
        exact ac_X4_findGroup_43 hB7 h
theorem ac_X4_findGroup_7 {K : Nat × (Nat → Int32)} {x : Nat} {Q : tq_O → tq_S → Prop} {a1 : Int32} {z : tq_S} (h : wc_X4_findGroup_7 Q a1 z) : tq_T K 2 x mm_X4_findGroup 7 [.ref 28, .int a1] [] z Q :=
  tq_lp_T (σ := Int32 × tq_S) (s := (a1, z)) (G := fun s => tq_T K 2 x mm_X4_findGroup 7 [.ref 28, .int s.1] [] s.2 Q) (fun B hB s h => ab_X4_findGroup_7 (fun b1 z h => hB (b1, z) h) h) h
def wm_X4_findGroup  (z : tq_S) (Q : tq_O → tq_S → Prop) : Prop := ∀ z1 : tq_S, z1 = tq_sfi z 1806 (1 : Int32) → wc_X4_findGroup_7 Q (0 : Int32) z1
theorem am_X4_findGroup {K : Nat × (Nat → Int32)} {x : Nat} {z : tq_S} {Q : tq_O → tq_S → Prop}  (h : wm_X4_findGroup z Q) : tq_M K 2 x mm_X4_findGroup [.ref 28] z Q := by
  unfold wm_X4_findGroup at h
  refine tq_enter (L := [.ref 28, .null]) mf_X4_findGroup.1 rfl rfl (Nat.le_of_ble_eq_true rfl) ?_
  refine tq_s_aload_n (kk := 0) (by decide +kernel) rfl ?_
  refine tq_k_ic (n := 1) (v := (1 : Int32)) (by decide +kernel) kc_1 ?_
  refine fp_4_111_28 rfl (by decide +kernel) (fun z1 ez1 => ?_)
  replace h := h z1 ez1
  refine tq_k_ic (n := 0) (v := (0 : Int32)) (by decide +kernel) kc_0 ?_
  refine tq_s_istore_n (kk := 1) (L9 := [.ref 28, .int (0 : Int32)]) (by decide +kernel) (by decide) rfl ?_
  exact ac_X4_findGroup_7 h
def wc_X8_moved_96 (B5 : Int64 → Int32 → tq_S → Prop) (Q : tq_O → tq_S → Prop) (a0 : Int64) (a2 : Int32) (a3 : Int64) (a5 : Int32) (z : tq_S) : Prop := ∀ v101 : Int32, v101 = a5 + (1 : Int32) → B5 a3 v101 z
theorem ac_X8_moved_96 {K : Nat × (Nat → Int32)} {x : Nat} {Q : tq_O → tq_S → Prop} {B5 : Int64 → Int32 → tq_S → Prop} {a0 : Int64} {a2 : Int32} {a3 : Int64} {a5 : Int32} {z : tq_S} (hB5 : ∀ (b3 : Int64) (b5 : Int32) (z : tq_S), B5 b3 b5 z → tq_T K 0 x mm_X8_moved 5 [.long a0, .null, .int a2, .long b3, .null, .int b5, .null, .null, .null, .null] [] z Q) (h : wc_X8_moved_96 B5 Q a0 a2 a3 a5 z) : tq_T K 0 x mm_X8_moved 96 [.long a0, .null, .int a2, .long a3, .null, .int a5, .null, .null, .null, .null] [] z Q := by
  unfold wc_X8_moved_96 at h
  refine tq_g_iinc (i := 5) (fun v101 => [.long a0, .null, .int a2, .long a3, .null, .int v101, .null, .null, .null, .null]) (by decide +kernel) rfl (1 : Int32) kc_1 (fun _ => rfl) (fun v101 ev101 => ?_)
  replace h := h v101 ev101
  refine tq_s_goto (off := -94) (tgt := 5) (by decide +kernel) (by decide +kernel) ?_
  exact hB5 _ _ _ h
def wc_X8_moved_83 (B5 : Int64 → Int32 → tq_S → Prop) (Q : tq_O → tq_S → Prop) (a0 : Int64) (a2 : Int32) (a3 : Int64) (a5 : Int32) (a6 : Int32) (a7 : Int32) (z : tq_S) : Prop := ∀ v101 : Int64, v101 = (a3 ||| ((1 : Int64) <<< ((Int32.toInt64 (((6 : Int32) * a7) + a6)) &&& 63))) → wc_X8_moved_96 B5 Q a0 a2 v101 a5 z
theorem ac_X8_moved_83 {K : Nat × (Nat → Int32)} {x : Nat} {Q : tq_O → tq_S → Prop} {B5 : Int64 → Int32 → tq_S → Prop} {a0 : Int64} {a2 : Int32} {a3 : Int64} {a5 : Int32} {a6 : Int32} {a7 : Int32} {z : tq_S} (hB5 : ∀ (b3 : Int64) (b5 : Int32) (z : tq_S), B5 b3 b5 z → tq_T K 0 x mm_X8_moved 5 [.long a0, .null, .int a2, .long b3, .null, .int b5, .null, .null, .null, .null] [] z Q) (h : wc_X8_moved_83 B5 Q a0 a2 a3 a5 a6 a7 z) : tq_T K 0 x mm_X8_moved 83 [.long a0, .null, .int a2, .long a3, .null, .int a5, .int a6, .int a7, .null, .null] [] z Q := by
  unfold wc_X8_moved_83 at h
  refine tq_s_lload_n (kk := 3) (by decide +kernel) rfl ?_
  refine tq_k_lc (n := 1) (v := (1 : Int64)) (by decide +kernel) (by decide +kernel) ?_
  refine tq_k_bi (n := 6) (v := (6 : Int32)) (by decide +kernel) kb_6 ?_
  refine tq_s_iload (i := 7) (by decide +kernel) rfl ?_
  refine tq_s_imul (by decide +kernel) ?_
  refine tq_s_iload (i := 6) (by decide +kernel) rfl ?_
  refine tq_s_iadd (by decide +kernel) ?_
  refine tq_s_lshl (by decide +kernel) ?_
  refine tq_s_lor (by decide +kernel) ?_
  refine tq_g_lstore_n (kk := 3) (fun v101 => [.long a0, .null, .int a2, .long v101, .null, .int a5, .int a6, .int a7, .null, .null]) (by decide +kernel) (by decide) (fun _ => rfl) (fun v101 ev101 => ?_)
  replace h := h v101 ev101
  exact tq_to (tq_lk1 (tq_lk1 (tq_lk1 (tq_lk1 (tq_lk1 (tq_lk1 (tq_ld1 (tq_ld1 (tq_lk1 (tq_lk1 tq_l0)))))))))) (ac_X8_moved_96 hB5 h)
def wb_X8_moved_55 (B5 : Int64 → Int32 → tq_S → Prop) (B55 : Int32 → Int32 → Int32 → tq_S → Prop) (Q : tq_O → tq_S → Prop) (a0 : Int64) (a2 : Int32) (a3 : Int64) (a5 : Int32) (a6 : Int32) (a7 : Int32) (a8 : Int32) (z : tq_S) : Prop := (((a2 - a2 / (4 : Int32) * (4 : Int32)) ≤ a8 → wc_X8_moved_83 B5 Q a0 a2 a3 a5 a6 a7 z) ∧ (¬ (a2 - a2 / (4 : Int32) * (4 : Int32)) ≤ a8 → ∀ v101 : Int32, v101 = ((5 : Int32) - a7) → ∀ v102 : Int32, v102 = a8 + (1 : Int32) → B55 v101 a6 v102 z))
def wc_X8_moved_55 (B5 : Int64 → Int32 → tq_S → Prop) (Q : tq_O → tq_S → Prop) (a0 : Int64) (a2 : Int32) (a3 : Int64) (a5 : Int32) (a6 : Int32) (a7 : Int32) (a8 : Int32) (z : tq_S) : Prop := tq_lp (σ := Int32 × Int32 × Int32 × tq_S) (fun B s => wb_X8_moved_55 B5 (fun b6 b7 b8 z => B (b6, b7, b8, z)) Q a0 a2 a3 a5 s.1 s.2.1 s.2.2.1 s.2.2.2) (a6, a7, a8, z)
theorem ab_X8_moved_55 {K : Nat × (Nat → Int32)} {x : Nat} {Q : tq_O → tq_S → Prop} {B5 : Int64 → Int32 → tq_S → Prop} {B55 : Int32 → Int32 → Int32 → tq_S → Prop} {a0 : Int64} {a2 : Int32} {a3 : Int64} {a5 : Int32} {a6 : Int32} {a7 : Int32} {a8 : Int32} {z : tq_S} (hB5 : ∀ (b3 : Int64) (b5 : Int32) (z : tq_S), B5 b3 b5 z → tq_T K 0 x mm_X8_moved 5 [.long a0, .null, .int a2, .long b3, .null, .int b5, .null, .null, .null, .null] [] z Q) (hB55 : ∀ (b6 : Int32) (b7 : Int32) (b8 : Int32) (z : tq_S), B55 b6 b7 b8 z → tq_T K 0 x mm_X8_moved 55 [.long a0, .null, .int a2, .long a3, .null, .int a5, .int b6, .int b7, .int b8, .null] [] z Q) (h : wb_X8_moved_55 B5 B55 Q a0 a2 a3 a5 a6 a7 a8 z) : tq_T K 0 x mm_X8_moved 55 [.long a0, .null, .int a2, .long a3, .null, .int a5, .int a6, .int a7, .int a8, .null] [] z Q := by
  unfold wb_X8_moved_55 at h
  refine tq_s_iload (i := 8) (by decide +kernel) rfl ?_
  refine tq_s_iload_n (kk := 2) (by decide +kernel) rfl ?_
  refine tq_k_ic (n := 4) (v := (4 : Int32)) (by decide +kernel) kc_4 ?_
  refine tq_s_irem (by decide +kernel) (by decide +kernel) ?_
  refine tq_icmp_ge (off := 23) (tgt := 83) (by decide +kernel) (by decide +kernel) (fun hc => ?_) (fun hc => ?_)
  · replace h := h.1 hc
    exact tq_to (tq_lk1 (tq_lk1 (tq_lk1 (tq_lk1 (tq_lk1 (tq_lk1 (tq_lk1 (tq_lk1 (tq_ld1 (tq_lk1 tq_l0)))))))))) (ac_X8_moved_83 hB5 h)
  · replace h := h.2 hc
    refine tq_s_iload (i := 6) (by decide +kernel) rfl ?_
    refine tq_s_istore (i := 9) (L9 := [.long a0, .null, .int a2, .long a3, .null, .int a5, .int a6, .int a7, .int a8, .int a6]) (by decide +kernel) (by decide) rfl ?_
    refine tq_k_ic (n := 5) (v := (5 : Int32)) (by decide +kernel) kc_5 ?_
    refine tq_s_iload (i := 7) (by decide +kernel) rfl ?_
    refine tq_s_isub (by decide +kernel) ?_
    refine tq_g_istore (i := 6) (fun v101 => [.long a0, .null, .int a2, .long a3, .null, .int a5, .int v101, .int a7, .int a8, .int a6]) (by decide +kernel) (by decide) (fun _ => rfl) (fun v101 ev101 => ?_)
    replace h := h v101 ev101
    refine tq_s_iload (i := 9) (by decide +kernel) rfl ?_
    refine tq_s_istore (i := 7) (L9 := [.long a0, .null, .int a2, .long a3, .null, .int a5, .int v101, .int a6, .int a8, .int a6]) (by decide +kernel) (by decide) rfl ?_
    refine tq_g_iinc (i := 8) (fun v102 => [.long a0, .null, .int a2, .long a3, .null, .int a5, .int v101, .int a6, .int v102, .int a6]) (by decide +kernel) rfl (1 : Int32) kc_1 (fun _ => rfl) (fun v102 ev102 => ?_)
    replace h := h v102 ev102
    refine tq_s_goto (off := -25) (tgt := 55) (by decide +kernel) (by decide +kernel) ?_
    exact tq_to (tq_lk1 (tq_lk1 (tq_lk1 (tq_lk1 (tq_lk1 (tq_lk1 (tq_lk1 (tq_lk1 (tq_lk1 (tq_ld1 tq_l0)))))))))) (hB55 _ _ _ _ h)
theorem ac_X8_moved_55 {K : Nat × (Nat → Int32)} {x : Nat} {Q : tq_O → tq_S → Prop} {B5 : Int64 → Int32 → tq_S → Prop} {a0 : Int64} {a2 : Int32} {a3 : Int64} {a5 : Int32} {a6 : Int32} {a7 : Int32} {a8 : Int32} {z : tq_S} (hB5 : ∀ (b3 : Int64) (b5 : Int32) (z : tq_S), B5 b3 b5 z → tq_T K 0 x mm_X8_moved 5 [.long a0, .null, .int a2, .long b3, .null, .int b5, .null, .null, .null, .null] [] z Q) (h : wc_X8_moved_55 B5 Q a0 a2 a3 a5 a6 a7 a8 z) : tq_T K 0 x mm_X8_moved 55 [.long a0, .null, .int a2, .long a3, .null, .int a5, .int a6, .int a7, .int a8, .null] [] z Q :=
  tq_lp_T (σ := Int32 × Int32 × Int32 × tq_S) (s := (a6, a7, a8, z)) (G := fun s => tq_T K 0 x mm_X8_moved 55 [.long a0, .null, .int a2, .long a3, .null, .int a5, .int s.1, .int s.2.1, .int s.2.2.1, .null] [] s.2.2.2 Q) (fun B hB s h => ab_X8_moved_55 hB5 (fun b6 b7 b8 z h => hB (b6, b7, b8, z) h) h) h
def wc_X8_moved_43 (B5 : Int64 → Int32 → tq_S → Prop) (Q : tq_O → tq_S → Prop) (a0 : Int64) (a2 : Int32) (a3 : Int64) (a5 : Int32) (s0 : Int32) (z : tq_S) : Prop := ∀ v101 : Int32, v101 = (a5 / (6 : Int32)) → wc_X8_moved_55 B5 Q a0 a2 a3 a5 s0 v101 (0 : Int32) z
theorem ac_X8_moved_43 {K : Nat × (Nat → Int32)} {x : Nat} {Q : tq_O → tq_S → Prop} {B5 : Int64 → Int32 → tq_S → Prop} {a0 : Int64} {a2 : Int32} {a3 : Int64} {a5 : Int32} {s0 : Int32} {z : tq_S} (hB5 : ∀ (b3 : Int64) (b5 : Int32) (z : tq_S), B5 b3 b5 z → tq_T K 0 x mm_X8_moved 5 [.long a0, .null, .int a2, .long b3, .null, .int b5, .null, .null, .null, .null] [] z Q) (h : wc_X8_moved_43 B5 Q a0 a2 a3 a5 s0 z) : tq_T K 0 x mm_X8_moved 43 [.long a0, .null, .int a2, .long a3, .null, .int a5, .null, .null, .null, .null] [.int s0] z Q := by
  unfold wc_X8_moved_43 at h
  refine tq_s_istore (i := 6) (L9 := [.long a0, .null, .int a2, .long a3, .null, .int a5, .int s0, .null, .null, .null]) (by decide +kernel) (by decide) rfl ?_
  refine tq_s_iload (i := 5) (by decide +kernel) rfl ?_
  refine tq_k_bi (n := 6) (v := (6 : Int32)) (by decide +kernel) kb_6 ?_
  refine tq_s_idiv (by decide +kernel) (by decide +kernel) ?_
  refine tq_g_istore (i := 7) (fun v101 => [.long a0, .null, .int a2, .long a3, .null, .int a5, .int s0, .int v101, .null, .null]) (by decide +kernel) (by decide) (fun _ => rfl) (fun v101 ev101 => ?_)
  replace h := h v101 ev101
  refine tq_k_ic (n := 0) (v := (0 : Int32)) (by decide +kernel) kc_0 ?_
  refine tq_s_istore (i := 8) (L9 := [.long a0, .null, .int a2, .long a3, .null, .int a5, .int s0, .int v101, .int (0 : Int32), .null]) (by decide +kernel) (by decide) rfl ?_
  exact ac_X8_moved_55 hB5 h
def wb_X8_moved_135 (B135 : Int64 → Int32 → tq_S → Prop) (Q : tq_O → tq_S → Prop) (a3 : Int64) (a5 : Int32) (z : tq_S) : Prop := (((5 : Int32) ≤ a5 → Q (.inl (some (.long a3))) z) ∧ (¬ (5 : Int32) ≤ a5 → ((¬ (a3 &&& (1090785345 : Int64)) = (0 : Int64) → Q (.inl (some (.long a3))) z) ∧ ((a3 &&& (1090785345 : Int64)) = (0 : Int64) → ∀ v101 : Int64, v101 = ((Int64.toUInt64 a3) >>> ((Int32.toInt64 (1 : Int32)).toUInt64 &&& Int64.toUInt64 63)).toInt64 → ∀ v102 : Int32, v102 = a5 + (1 : Int32) → B135 v101 v102 z))))
def wc_X8_moved_135 (Q : tq_O → tq_S → Prop) (a3 : Int64) (a5 : Int32) (z : tq_S) : Prop := tq_lp (σ := Int64 × Int32 × tq_S) (fun B s => wb_X8_moved_135 (fun b3 b5 z => B (b3, b5, z)) Q s.1 s.2.1 s.2.2) (a3, a5, z)
theorem ab_X8_moved_135 {K : Nat × (Nat → Int32)} {x : Nat} {Q : tq_O → tq_S → Prop} {B135 : Int64 → Int32 → tq_S → Prop} {a3 : Int64} {a5 : Int32} {z : tq_S} (hB135 : ∀ (b3 : Int64) (b5 : Int32) (z : tq_S), B135 b3 b5 z → tq_T K 0 x mm_X8_moved 135 [.null, .null, .null, .long b3, .null, .int b5, .null, .null, .null, .null] [] z Q) (h : wb_X8_moved_135 B135 Q a3 a5 z) : tq_T K 0 x mm_X8_moved 135 [.null, .null, .null, .long a3, .null, .int a5, .null, .null, .null, .null] [] z Q := by
  unfold wb_X8_moved_135 at h
  refine tq_s_iload (i := 5) (by decide +kernel) rfl ?_
  refine tq_k_ic (n := 5) (v := (5 : Int32)) (by decide +kernel) kc_5 ?_
  refine tq_icmp_ge (off := 23) (tgt := 161) (by decide +kernel) (by decide +kernel) (fun hc => ?_) (fun hc => ?_)
  · replace h := h.1 hc
    refine tq_s_lload_n (kk := 3) (by decide +kernel) rfl ?_
    exact tq_ret_l (st := []) (by decide +kernel) rfl h
  · replace h := h.2 hc
    refine tq_s_lload_n (kk := 3) (by decide +kernel) rfl ?_
    refine tq_s_ldc2 (i := 52) (v := (1090785345 : Int64)) (by decide +kernel) (by decide +kernel) ?_
    refine tq_s_land (by decide +kernel) ?_
    refine tq_k_lc (n := 0) (v := (0 : Int64)) (by decide +kernel) (by decide +kernel) ?_
    refine tq_lcmp_ne (off := 13) (tgt := 161) (by decide +kernel) (by decide +kernel) (by decide +kernel) (fun hc => ?_) (fun hc => ?_)
    · replace h := h.1 hc
      refine tq_s_lload_n (kk := 3) (by decide +kernel) rfl ?_
      exact tq_ret_l (st := []) (by decide +kernel) rfl h
    · replace h := h.2 hc
      refine tq_s_lload_n (kk := 3) (by decide +kernel) rfl ?_
      refine tq_k_ic (n := 1) (v := (1 : Int32)) (by decide +kernel) kc_1 ?_
      refine tq_s_lushr (by decide +kernel) ?_
      refine tq_g_lstore_n (kk := 3) (fun v101 => [.null, .null, .null, .long v101, .null, .int a5, .null, .null, .null, .null]) (by decide +kernel) (by decide) (fun _ => rfl) (fun v101 ev101 => ?_)
      replace h := h v101 ev101
      refine tq_g_iinc (i := 5) (fun v102 => [.null, .null, .null, .long v101, .null, .int v102, .null, .null, .null, .null]) (by decide +kernel) rfl (1 : Int32) kc_1 (fun _ => rfl) (fun v102 ev102 => ?_)
      replace h := h v102 ev102
      refine tq_s_goto (off := -23) (tgt := 135) (by decide +kernel) (by decide +kernel) ?_
      exact hB135 _ _ _ h
theorem ac_X8_moved_135 {K : Nat × (Nat → Int32)} {x : Nat} {Q : tq_O → tq_S → Prop} {a3 : Int64} {a5 : Int32} {z : tq_S} (h : wc_X8_moved_135 Q a3 a5 z) : tq_T K 0 x mm_X8_moved 135 [.null, .null, .null, .long a3, .null, .int a5, .null, .null, .null, .null] [] z Q :=
  tq_lp_T (σ := Int64 × Int32 × tq_S) (s := (a3, a5, z)) (G := fun s => tq_T K 0 x mm_X8_moved 135 [.null, .null, .null, .long s.1, .null, .int s.2.1, .null, .null, .null, .null] [] s.2.2 Q) (fun B hB s h => ab_X8_moved_135 (fun b3 b5 z h => hB (b3, b5, z) h) h) h
def wc_X8_moved_132 (Q : tq_O → tq_S → Prop) (a3 : Int64) (z : tq_S) : Prop := wc_X8_moved_135 Q a3 (0 : Int32) z
theorem ac_X8_moved_132 {K : Nat × (Nat → Int32)} {x : Nat} {Q : tq_O → tq_S → Prop} {a3 : Int64} {z : tq_S} (h : wc_X8_moved_132 Q a3 z) : tq_T K 0 x mm_X8_moved 132 [.null, .null, .null, .long a3, .null, .null, .null, .null, .null, .null] [] z Q := by
  unfold wc_X8_moved_132 at h
  refine tq_k_ic (n := 0) (v := (0 : Int32)) (by decide +kernel) kc_0 ?_
  refine tq_s_istore (i := 5) (L9 := [.null, .null, .null, .long a3, .null, .int (0 : Int32), .null, .null, .null, .null]) (by decide +kernel) (by decide) rfl ?_
  exact ac_X8_moved_135 h
def wb_X8_moved_105 (B105 : Int64 → Int32 → tq_S → Prop) (Q : tq_O → tq_S → Prop) (a3 : Int64) (a5 : Int32) (z : tq_S) : Prop := (((5 : Int32) ≤ a5 → wc_X8_moved_132 Q a3 z) ∧ (¬ (5 : Int32) ≤ a5 → ((¬ (a3 &&& (63 : Int64)) = (0 : Int64) → wc_X8_moved_132 Q a3 z) ∧ ((a3 &&& (63 : Int64)) = (0 : Int64) → ∀ v101 : Int64, v101 = ((Int64.toUInt64 a3) >>> ((Int32.toInt64 (6 : Int32)).toUInt64 &&& Int64.toUInt64 63)).toInt64 → ∀ v102 : Int32, v102 = a5 + (1 : Int32) → B105 v101 v102 z))))
def wc_X8_moved_105 (Q : tq_O → tq_S → Prop) (a3 : Int64) (a5 : Int32) (z : tq_S) : Prop := tq_lp (σ := Int64 × Int32 × tq_S) (fun B s => wb_X8_moved_105 (fun b3 b5 z => B (b3, b5, z)) Q s.1 s.2.1 s.2.2) (a3, a5, z)
theorem ab_X8_moved_105 {K : Nat × (Nat → Int32)} {x : Nat} {Q : tq_O → tq_S → Prop} {B105 : Int64 → Int32 → tq_S → Prop} {a3 : Int64} {a5 : Int32} {z : tq_S} (hB105 : ∀ (b3 : Int64) (b5 : Int32) (z : tq_S), B105 b3 b5 z → tq_T K 0 x mm_X8_moved 105 [.null, .null, .null, .long b3, .null, .int b5, .null, .null, .null, .null] [] z Q) (h : wb_X8_moved_105 B105 Q a3 a5 z) : tq_T K 0 x mm_X8_moved 105 [.null, .null, .null, .long a3, .null, .int a5, .null, .null, .null, .null] [] z Q := by
  unfold wb_X8_moved_105 at h
  refine tq_s_iload (i := 5) (by decide +kernel) rfl ?_
  refine tq_k_ic (n := 5) (v := (5 : Int32)) (by decide +kernel) kc_5 ?_
  refine tq_icmp_ge (off := 24) (tgt := 132) (by decide +kernel) (by decide +kernel) (fun hc => ?_) (fun hc => ?_)
  · replace h := h.1 hc
    exact tq_to (tq_lk1 (tq_lk1 (tq_lk1 (tq_lk1 (tq_lk1 (tq_ld1 (tq_lk1 (tq_lk1 (tq_lk1 (tq_lk1 tq_l0)))))))))) (ac_X8_moved_132 h)
  · replace h := h.2 hc
    refine tq_s_lload_n (kk := 3) (by decide +kernel) rfl ?_
    refine tq_s_ldc2 (i := 50) (v := (63 : Int64)) (by decide +kernel) (by decide +kernel) ?_
    refine tq_s_land (by decide +kernel) ?_
    refine tq_k_lc (n := 0) (v := (0 : Int64)) (by decide +kernel) (by decide +kernel) ?_
    refine tq_lcmp_ne (off := 14) (tgt := 132) (by decide +kernel) (by decide +kernel) (by decide +kernel) (fun hc => ?_) (fun hc => ?_)
    · replace h := h.1 hc
      exact tq_to (tq_lk1 (tq_lk1 (tq_lk1 (tq_lk1 (tq_lk1 (tq_ld1 (tq_lk1 (tq_lk1 (tq_lk1 (tq_lk1 tq_l0)))))))))) (ac_X8_moved_132 h)
    · replace h := h.2 hc
      refine tq_s_lload_n (kk := 3) (by decide +kernel) rfl ?_
      refine tq_k_bi (n := 6) (v := (6 : Int32)) (by decide +kernel) kb_6 ?_
      refine tq_s_lushr (by decide +kernel) ?_
      refine tq_g_lstore_n (kk := 3) (fun v101 => [.null, .null, .null, .long v101, .null, .int a5, .null, .null, .null, .null]) (by decide +kernel) (by decide) (fun _ => rfl) (fun v101 ev101 => ?_)
      replace h := h v101 ev101
      refine tq_g_iinc (i := 5) (fun v102 => [.null, .null, .null, .long v101, .null, .int v102, .null, .null, .null, .null]) (by decide +kernel) rfl (1 : Int32) kc_1 (fun _ => rfl) (fun v102 ev102 => ?_)
      replace h := h v102 ev102
      refine tq_s_goto (off := -24) (tgt := 105) (by decide +kernel) (by decide +kernel) ?_
      exact hB105 _ _ _ h
theorem ac_X8_moved_105 {K : Nat × (Nat → Int32)} {x : Nat} {Q : tq_O → tq_S → Prop} {a3 : Int64} {a5 : Int32} {z : tq_S} (h : wc_X8_moved_105 Q a3 a5 z) : tq_T K 0 x mm_X8_moved 105 [.null, .null, .null, .long a3, .null, .int a5, .null, .null, .null, .null] [] z Q :=
  tq_lp_T (σ := Int64 × Int32 × tq_S) (s := (a3, a5, z)) (G := fun s => tq_T K 0 x mm_X8_moved 105 [.null, .null, .null, .long s.1, .null, .int s.2.1, .null, .null, .null, .null] [] s.2.2 Q) (fun B hB s h => ab_X8_moved_105 (fun b3 b5 z h => hB (b3, b5, z) h) h) h
def wc_X8_moved_102 (Q : tq_O → tq_S → Prop) (a3 : Int64) (z : tq_S) : Prop := wc_X8_moved_105 Q a3 (0 : Int32) z
theorem ac_X8_moved_102 {K : Nat × (Nat → Int32)} {x : Nat} {Q : tq_O → tq_S → Prop} {a3 : Int64} {z : tq_S} (h : wc_X8_moved_102 Q a3 z) : tq_T K 0 x mm_X8_moved 102 [.null, .null, .null, .long a3, .null, .null, .null, .null, .null, .null] [] z Q := by
  unfold wc_X8_moved_102 at h
  refine tq_k_ic (n := 0) (v := (0 : Int32)) (by decide +kernel) kc_0 ?_
  refine tq_s_istore (i := 5) (L9 := [.null, .null, .null, .long a3, .null, .int (0 : Int32), .null, .null, .null, .null]) (by decide +kernel) (by decide) rfl ?_
  exact ac_X8_moved_105 h
def wb_X8_moved_5 (B5 : Int64 → Int32 → tq_S → Prop) (Q : tq_O → tq_S → Prop) (a0 : Int64) (a2 : Int32) (a3 : Int64) (a5 : Int32) (z : tq_S) : Prop := (((36 : Int32) ≤ a5 → wc_X8_moved_102 Q a3 z) ∧ (¬ (36 : Int32) ≤ a5 → (((((Int64.toUInt64 a0) >>> ((Int32.toInt64 a5).toUInt64 &&& Int64.toUInt64 63)).toInt64 &&& (1 : Int64)) = (0 : Int64) → wc_X8_moved_96 B5 Q a0 a2 a3 a5 z) ∧ (¬ (((Int64.toUInt64 a0) >>> ((Int32.toInt64 a5).toUInt64 &&& Int64.toUInt64 63)).toInt64 &&& (1 : Int64)) = (0 : Int64) → ((a2 < (4 : Int32) → wc_X8_moved_43 B5 Q a0 a2 a3 a5 (a5 - a5 / (6 : Int32) * (6 : Int32)) z) ∧ (¬ a2 < (4 : Int32) → wc_X8_moved_43 B5 Q a0 a2 a3 a5 ((5 : Int32) - (a5 - a5 / (6 : Int32) * (6 : Int32))) z))))))
def wc_X8_moved_5 (Q : tq_O → tq_S → Prop) (a0 : Int64) (a2 : Int32) (a3 : Int64) (a5 : Int32) (z : tq_S) : Prop := tq_lp (σ := Int64 × Int32 × tq_S) (fun B s => wb_X8_moved_5 (fun b3 b5 z => B (b3, b5, z)) Q a0 a2 s.1 s.2.1 s.2.2) (a3, a5, z)
theorem ab_X8_moved_5 {K : Nat × (Nat → Int32)} {x : Nat} {Q : tq_O → tq_S → Prop} {B5 : Int64 → Int32 → tq_S → Prop} {a0 : Int64} {a2 : Int32} {a3 : Int64} {a5 : Int32} {z : tq_S} (hB5 : ∀ (b3 : Int64) (b5 : Int32) (z : tq_S), B5 b3 b5 z → tq_T K 0 x mm_X8_moved 5 [.long a0, .null, .int a2, .long b3, .null, .int b5, .null, .null, .null, .null] [] z Q) (h : wb_X8_moved_5 B5 Q a0 a2 a3 a5 z) : tq_T K 0 x mm_X8_moved 5 [.long a0, .null, .int a2, .long a3, .null, .int a5, .null, .null, .null, .null] [] z Q := by
  unfold wb_X8_moved_5 at h
  refine tq_s_iload (i := 5) (by decide +kernel) rfl ?_
  refine tq_k_bi (n := 36) (v := (36 : Int32)) (by decide +kernel) kb_36 ?_
  refine tq_icmp_ge (off := 93) (tgt := 102) (by decide +kernel) (by decide +kernel) (fun hc => ?_) (fun hc => ?_)
  · replace h := h.1 hc
    exact tq_to (tq_ld1 (tq_lk1 (tq_ld1 (tq_lk1 (tq_lk1 (tq_ld1 (tq_lk1 (tq_lk1 (tq_lk1 (tq_lk1 tq_l0)))))))))) (ac_X8_moved_102 h)
  · replace h := h.2 hc
    refine tq_s_lload_n (kk := 0) (by decide +kernel) rfl ?_
    refine tq_s_iload (i := 5) (by decide +kernel) rfl ?_
    refine tq_s_lushr (by decide +kernel) ?_
    refine tq_k_lc (n := 1) (v := (1 : Int64)) (by decide +kernel) (by decide +kernel) ?_
    refine tq_s_land (by decide +kernel) ?_
    refine tq_k_lc (n := 0) (v := (0 : Int64)) (by decide +kernel) (by decide +kernel) ?_
    refine tq_lcmp_eq (off := 76) (tgt := 96) (by decide +kernel) (by decide +kernel) (by decide +kernel) (fun hc => ?_) (fun hc => ?_)
    · replace h := h.1 hc
      exact ac_X8_moved_96 hB5 h
    · replace h := h.2 hc
      refine tq_s_iload_n (kk := 2) (by decide +kernel) rfl ?_
      refine tq_k_ic (n := 4) (v := (4 : Int32)) (by decide +kernel) kc_4 ?_
      refine tq_icmp_lt (off := 13) (tgt := 38) (by decide +kernel) (by decide +kernel) (fun hc => ?_) (fun hc => ?_)
      · replace h := h.1 hc
        refine tq_s_iload (i := 5) (by decide +kernel) rfl ?_
        refine tq_k_bi (n := 6) (v := (6 : Int32)) (by decide +kernel) kb_6 ?_
        refine tq_s_irem (by decide +kernel) (by decide +kernel) ?_
        exact ac_X8_moved_43 hB5 h
      · replace h := h.2 hc
        refine tq_k_ic (n := 5) (v := (5 : Int32)) (by decide +kernel) kc_5 ?_
        refine tq_s_iload (i := 5) (by decide +kernel) rfl ?_
        refine tq_k_bi (n := 6) (v := (6 : Int32)) (by decide +kernel) kb_6 ?_
        refine tq_s_irem (by decide +kernel) (by decide +kernel) ?_
        refine tq_s_isub (by decide +kernel) ?_
        refine tq_s_goto (off := 8) (tgt := 43) (by decide +kernel) (by decide +kernel) ?_
        exact ac_X8_moved_43 hB5 h
theorem ac_X8_moved_5 {K : Nat × (Nat → Int32)} {x : Nat} {Q : tq_O → tq_S → Prop} {a0 : Int64} {a2 : Int32} {a3 : Int64} {a5 : Int32} {z : tq_S} (h : wc_X8_moved_5 Q a0 a2 a3 a5 z) : tq_T K 0 x mm_X8_moved 5 [.long a0, .null, .int a2, .long a3, .null, .int a5, .null, .null, .null, .null] [] z Q :=
  tq_lp_T (σ := Int64 × Int32 × tq_S) (s := (a3, a5, z)) (G := fun s => tq_T K 0 x mm_X8_moved 5 [.long a0, .null, .int a2, .long s.1, .null, .int s.2.1, .null, .null, .null, .null] [] s.2.2 Q) (fun B hB s h => ab_X8_moved_5 (fun b3 b5 z h => hB (b3, b5, z) h) h) h
def wm_X8_moved (a0 : Int64) (a2 : Int32) (z : tq_S) (Q : tq_O → tq_S → Prop) : Prop := wc_X8_moved_5 Q a0 a2 (0 : Int64) (0 : Int32) z
theorem am_X8_moved {K : Nat × (Nat → Int32)} {x : Nat} {z : tq_S} {Q : tq_O → tq_S → Prop} {a0 : Int64} {a2 : Int32} (h : wm_X8_moved a0 a2 z Q) : tq_M K 0 x mm_X8_moved [.long a0, .int a2] z Q := by
  unfold wm_X8_moved at h
  refine tq_enter (L := [.long a0, .null, .int a2, .null, .null, .null, .null, .null, .null, .null]) mf_X8_moved.1 rfl rfl (Nat.le_of_ble_eq_true rfl) ?_
  refine tq_k_lc (n := 0) (v := (0 : Int64)) (by decide +kernel) (by decide +kernel) ?_
  refine tq_s_lstore_n (kk := 3) (L9 := [.long a0, .null, .int a2, .long (0 : Int64), .null, .null, .null, .null, .null, .null]) (by decide +kernel) (by decide) rfl ?_
  refine tq_k_ic (n := 0) (v := (0 : Int32)) (by decide +kernel) kc_0 ?_
  refine tq_s_istore (i := 5) (L9 := [.long a0, .null, .int a2, .long (0 : Int64), .null, .int (0 : Int32), .null, .null, .null, .null]) (by decide +kernel) (by decide) rfl ?_
  exact ac_X8_moved_5 h
def wb_X8_isShapeOf_3 (B3 : Int32 → tq_S → Prop) (Q : tq_O → tq_S → Prop) (a1 : Int32) (a2 : Int64) (a4 : Int32) (z : tq_S) : Prop := vp_in a1 6 ∧ (((tq_ai z 25 (Int32.toNatClampNeg a1)) ≤ a4 → Q (.inl (some (.int (0 : Int32)))) z) ∧ (¬ (tq_ai z 25 (Int32.toNatClampNeg a1)) ≤ a4 → vp_in ((a1 * (8 : Int32)) + a4) 48 ∧ ((¬ (tq_al z 24 (Int32.toNatClampNeg ((a1 * (8 : Int32)) + a4))) = a2 → ∀ v101 : Int32, v101 = a4 + (1 : Int32) → B3 v101 z) ∧ ((tq_al z 24 (Int32.toNatClampNeg ((a1 * (8 : Int32)) + a4))) = a2 → Q (.inl (some (.int (1 : Int32)))) z))))
def wc_X8_isShapeOf_3 (Q : tq_O → tq_S → Prop) (a1 : Int32) (a2 : Int64) (a4 : Int32) (z : tq_S) : Prop := tq_lp (σ := Int32 × tq_S) (fun B s => wb_X8_isShapeOf_3 (fun b4 z => B (b4, z)) Q a1 a2 s.1 s.2) (a4, z)
theorem ab_X8_isShapeOf_3 {K : Nat × (Nat → Int32)} {x : Nat} {Q : tq_O → tq_S → Prop} {B3 : Int32 → tq_S → Prop} {a1 : Int32} {a2 : Int64} {a4 : Int32} {z : tq_S} (hB3 : ∀ (b4 : Int32) (z : tq_S), B3 b4 z → tq_T K 0 x mm_X8_isShapeOf 3 [.ref 23, .int a1, .long a2, .null, .int b4] [] z Q) (h : wb_X8_isShapeOf_3 B3 Q a1 a2 a4 z) : tq_T K 0 x mm_X8_isShapeOf 3 [.ref 23, .int a1, .long a2, .null, .int a4] [] z Q := by
  unfold wb_X8_isShapeOf_3 at h
  refine tq_s_iload (i := 4) (by decide +kernel) rfl ?_
  refine tq_s_aload_n (kk := 0) (by decide +kernel) rfl ?_
  refine fg_8_13_23 rfl (by decide +kernel) ?_
  refine tq_s_iload_n (kk := 1) (by decide +kernel) rfl ?_
  refine tq_s_iald (by decide +kernel) sh_25 h.1 ?_
  replace h := h.2
  refine tq_icmp_ge (off := 28) (tgt := 39) (by decide +kernel) (by decide +kernel) (fun hc => ?_) (fun hc => ?_)
  · replace h := h.1 hc
    refine tq_k_ic (n := 0) (v := (0 : Int32)) (by decide +kernel) kc_0 ?_
    exact tq_ret_z (st := []) (ty := .boolean) (by decide +kernel) (by decide +kernel) rfl h
  · replace h := h.2 hc
    refine tq_s_aload_n (kk := 0) (by decide +kernel) rfl ?_
    refine fg_8_9_23 rfl (by decide +kernel) ?_
    refine tq_s_iload_n (kk := 1) (by decide +kernel) rfl ?_
    refine tq_k_bi (n := 8) (v := (8 : Int32)) (by decide +kernel) kb_8 ?_
    refine tq_s_imul (by decide +kernel) ?_
    refine tq_s_iload (i := 4) (by decide +kernel) rfl ?_
    refine tq_s_iadd (by decide +kernel) ?_
    refine tq_s_lald (by decide +kernel) sh_24 h.1 ?_
    replace h := h.2
    refine tq_s_lload_n (kk := 2) (by decide +kernel) rfl ?_
    refine tq_lcmp_ne (off := 5) (tgt := 33) (by decide +kernel) (by decide +kernel) (by decide +kernel) (fun hc => ?_) (fun hc => ?_)
    · replace h := h.1 hc
      refine tq_g_iinc (i := 4) (fun v101 => [.ref 23, .int a1, .long a2, .null, .int v101]) (by decide +kernel) rfl (1 : Int32) kc_1 (fun _ => rfl) (fun v101 ev101 => ?_)
      replace h := h v101 ev101
      refine tq_s_goto (off := -33) (tgt := 3) (by decide +kernel) (by decide +kernel) ?_
      exact hB3 _ _ h
    · replace h := h.2 hc
      refine tq_k_ic (n := 1) (v := (1 : Int32)) (by decide +kernel) kc_1 ?_
      exact tq_ret_z (st := []) (ty := .boolean) (by decide +kernel) (by decide +kernel) rfl h
theorem ac_X8_isShapeOf_3 {K : Nat × (Nat → Int32)} {x : Nat} {Q : tq_O → tq_S → Prop} {a1 : Int32} {a2 : Int64} {a4 : Int32} {z : tq_S} (h : wc_X8_isShapeOf_3 Q a1 a2 a4 z) : tq_T K 0 x mm_X8_isShapeOf 3 [.ref 23, .int a1, .long a2, .null, .int a4] [] z Q :=
  tq_lp_T (σ := Int32 × tq_S) (s := (a4, z)) (G := fun s => tq_T K 0 x mm_X8_isShapeOf 3 [.ref 23, .int a1, .long a2, .null, .int s.1] [] s.2 Q) (fun B hB s h => ab_X8_isShapeOf_3 (fun b4 z h => hB (b4, z) h) h) h
def wm_X8_isShapeOf (a1 : Int32) (a2 : Int64) (z : tq_S) (Q : tq_O → tq_S → Prop) : Prop := wc_X8_isShapeOf_3 Q a1 a2 (0 : Int32) z
theorem am_X8_isShapeOf {K : Nat × (Nat → Int32)} {x : Nat} {z : tq_S} {Q : tq_O → tq_S → Prop} {a1 : Int32} {a2 : Int64} (h : wm_X8_isShapeOf a1 a2 z Q) : tq_M K 0 x mm_X8_isShapeOf [.ref 23, .int a1, .long a2] z Q := by
  unfold wm_X8_isShapeOf at h
  refine tq_enter (L := [.ref 23, .int a1, .long a2, .null, .null]) mf_X8_isShapeOf.1 rfl rfl (Nat.le_of_ble_eq_true rfl) ?_
  refine tq_k_ic (n := 0) (v := (0 : Int32)) (by decide +kernel) kc_0 ?_
  refine tq_s_istore (i := 4) (L9 := [.ref 23, .int a1, .long a2, .null, .int (0 : Int32)]) (by decide +kernel) (by decide) rfl ?_
  exact ac_X8_isShapeOf_3 h
def wc_X4_motionsOf_54 (B6 : Int64 → Int32 → tq_S → Prop) (Q : tq_O → tq_S → Prop) (a1 : Int32) (a2 : Int64) (a4 : Int64) (a6 : Int32) (z : tq_S) : Prop := ∀ v101 : Int32, v101 = a6 + (1 : Int32) → B6 a4 v101 z
theorem ac_X4_motionsOf_54 {K : Nat × (Nat → Int32)} {x : Nat} {Q : tq_O → tq_S → Prop} {B6 : Int64 → Int32 → tq_S → Prop} {a1 : Int32} {a2 : Int64} {a4 : Int64} {a6 : Int32} {z : tq_S} (hB6 : ∀ (b4 : Int64) (b6 : Int32) (z : tq_S), B6 b4 b6 z → tq_T K 1 x mm_X4_motionsOf 6 [.ref 28, .int a1, .long a2, .null, .long b4, .null, .int b6] [] z Q) (h : wc_X4_motionsOf_54 B6 Q a1 a2 a4 a6 z) : tq_T K 1 x mm_X4_motionsOf 54 [.ref 28, .int a1, .long a2, .null, .long a4, .null, .int a6] [] z Q := by
  unfold wc_X4_motionsOf_54 at h
  refine tq_g_iinc (i := 6) (fun v101 => [.ref 28, .int a1, .long a2, .null, .long a4, .null, .int v101]) (by decide +kernel) rfl (1 : Int32) kc_1 (fun _ => rfl) (fun v101 ev101 => ?_)
  replace h := h v101 ev101
  refine tq_s_goto (off := -51) (tgt := 6) (by decide +kernel) (by decide +kernel) ?_
  exact hB6 _ _ _ h
def wb_X4_motionsOf_6 (B6 : Int64 → Int32 → tq_S → Prop) (Q : tq_O → tq_S → Prop) (a1 : Int32) (a2 : Int64) (a4 : Int64) (a6 : Int32) (z : tq_S) : Prop := (((8 : Int32) ≤ a6 → Q (.inl (some (.long a4))) z) ∧ (¬ (8 : Int32) ≤ a6 → (((((Int32.toUInt32 (tq_fi z 1806)) >>> ((Int32.toUInt32 a6) &&& Int32.toUInt32 31)).toInt32 &&& (1 : Int32)) = 0 → wc_X4_motionsOf_54 B6 Q a1 a2 a4 a6 z) ∧ (¬ (((Int32.toUInt32 (tq_fi z 1806)) >>> ((Int32.toUInt32 a6) &&& Int32.toUInt32 31)).toInt32 &&& (1 : Int32)) = 0 → wm_X8_moved a2 a6 z (tq_wl fun r102 z101 => wm_X8_isShapeOf a1 r102 z101 (tq_wi fun r104 z103 => ((r104 = 0 → wc_X4_motionsOf_54 B6 Q a1 a2 a4 a6 z103) ∧ (¬ r104 = 0 → ∀ v105 : Int64, v105 = (a4 ||| ((1 : Int64) <<< ((Int32.toInt64 ((24 : Int32) + a6)) &&& 63))) → wc_X4_motionsOf_54 B6 Q a1 a2 v105 a6 z103))))))))
def wc_X4_motionsOf_6 (Q : tq_O → tq_S → Prop) (a1 : Int32) (a2 : Int64) (a4 : Int64) (a6 : Int32) (z : tq_S) : Prop := tq_lp (σ := Int64 × Int32 × tq_S) (fun B s => wb_X4_motionsOf_6 (fun b4 b6 z => B (b4, b6, z)) Q a1 a2 s.1 s.2.1 s.2.2) (a4, a6, z)
theorem ab_X4_motionsOf_6 {K : Nat × (Nat → Int32)} {x : Nat} {Q : tq_O → tq_S → Prop} {B6 : Int64 → Int32 → tq_S → Prop} {a1 : Int32} {a2 : Int64} {a4 : Int64} {a6 : Int32} {z : tq_S} (hB6 : ∀ (b4 : Int64) (b6 : Int32) (z : tq_S), B6 b4 b6 z → tq_T K 1 x mm_X4_motionsOf 6 [.ref 28, .int a1, .long a2, .null, .long b4, .null, .int b6] [] z Q) (h : wb_X4_motionsOf_6 B6 Q a1 a2 a4 a6 z) : tq_T K 1 x mm_X4_motionsOf 6 [.ref 28, .int a1, .long a2, .null, .long a4, .null, .int a6] [] z Q := by
  unfold wb_X4_motionsOf_6 at h
  refine tq_s_iload (i := 6) (by decide +kernel) rfl ?_
  refine tq_k_bi (n := 8) (v := (8 : Int32)) (by decide +kernel) kb_8 ?_
  refine tq_icmp_ge (off := 50) (tgt := 60) (by decide +kernel) (by decide +kernel) (fun hc => ?_) (fun hc => ?_)
  · replace h := h.1 hc
    refine tq_s_lload (i := 4) (by decide +kernel) rfl ?_
    exact tq_ret_l (st := []) (by decide +kernel) rfl h
  · replace h := h.2 hc
    refine tq_s_aload_n (kk := 0) (by decide +kernel) rfl ?_
    refine fg_4_111_28 rfl (by decide +kernel) ?_
    refine tq_s_iload (i := 6) (by decide +kernel) rfl ?_
    refine tq_s_iushr (by decide +kernel) ?_
    refine tq_k_ic (n := 1) (v := (1 : Int32)) (by decide +kernel) kc_1 ?_
    refine tq_s_iand (by decide +kernel) ?_
    refine tq_if_eq (off := 32) (tgt := 54) (by decide +kernel) (by decide +kernel) (fun hc => ?_) (fun hc => ?_)
    · replace h := h.1 hc
      exact ac_X4_motionsOf_54 hB6 h
    · replace h := h.2 hc
      refine tq_s_aload_n (kk := 0) (by decide +kernel) rfl ?_
      refine fg_4_15_28 rfl (by decide +kernel) ?_
      refine tq_s_iload_n (kk := 1) (by decide +kernel) rfl ?_
      refine tq_s_lload_n (kk := 2) (by decide +kernel) rfl ?_
      refine tq_s_iload (i := 6) (by decide +kernel) rfl ?_
      refine tq_callSN (as := [.long a2, .int a6]) (st := [.int a1, .ref 23]) (d1 := 0) (x1 := 0) (x2 := x) (by decide +kernel) ln_4_193 mf_X8_moved rfl (by decide) np_X8_moved rfl (Nat.le_of_ble_eq_true rfl) (by decide) (Nat.zero_add _).symm (tq_M_mono (am_X8_moved h) ?_)
      refine tq_wl_e (fun r102 z101 h => ?_)
      refine tq_callVN (as := [.int a1, .long r102]) (st := []) (d1 := 0) (x1 := 0) (x2 := x) (by decide +kernel) ln_4_196 mf_X8_isShapeOf rfl sh_23 rfl (by decide) np_X8_isShapeOf rfl (Nat.le_of_ble_eq_true rfl) (by decide) (Nat.zero_add _).symm (tq_M_mono (am_X8_isShapeOf h) ?_)
      refine tq_wi_e (fun r104 z103 h => ?_)
      refine tq_if_eq (off := 15) (tgt := 54) (by decide +kernel) (by decide +kernel) (fun hc => ?_) (fun hc => ?_)
      · replace h := h.1 hc
        exact ac_X4_motionsOf_54 hB6 h
      · replace h := h.2 hc
        refine tq_s_lload (i := 4) (by decide +kernel) rfl ?_
        refine tq_k_lc (n := 1) (v := (1 : Int64)) (by decide +kernel) (by decide +kernel) ?_
        refine tq_k_bi (n := 24) (v := (24 : Int32)) (by decide +kernel) kb_24 ?_
        refine tq_s_iload (i := 6) (by decide +kernel) rfl ?_
        refine tq_s_iadd (by decide +kernel) ?_
        refine tq_s_lshl (by decide +kernel) ?_
        refine tq_s_lor (by decide +kernel) ?_
        refine tq_g_lstore (i := 4) (fun v105 => [.ref 28, .int a1, .long a2, .null, .long v105, .null, .int a6]) (by decide +kernel) (by decide) (fun _ => rfl) (fun v105 ev105 => ?_)
        replace h := h v105 ev105
        exact ac_X4_motionsOf_54 hB6 h
theorem ac_X4_motionsOf_6 {K : Nat × (Nat → Int32)} {x : Nat} {Q : tq_O → tq_S → Prop} {a1 : Int32} {a2 : Int64} {a4 : Int64} {a6 : Int32} {z : tq_S} (h : wc_X4_motionsOf_6 Q a1 a2 a4 a6 z) : tq_T K 1 x mm_X4_motionsOf 6 [.ref 28, .int a1, .long a2, .null, .long a4, .null, .int a6] [] z Q :=
  tq_lp_T (σ := Int64 × Int32 × tq_S) (s := (a4, a6, z)) (G := fun s => tq_T K 1 x mm_X4_motionsOf 6 [.ref 28, .int a1, .long a2, .null, .long s.1, .null, .int s.2.1] [] s.2.2 Q) (fun B hB s h => ab_X4_motionsOf_6 (fun b4 b6 z h => hB (b4, b6, z) h) h) h
def wm_X4_motionsOf (a1 : Int32) (a2 : Int64) (z : tq_S) (Q : tq_O → tq_S → Prop) : Prop := wc_X4_motionsOf_6 Q a1 a2 (0 : Int64) (0 : Int32) z
theorem am_X4_motionsOf {K : Nat × (Nat → Int32)} {x : Nat} {z : tq_S} {Q : tq_O → tq_S → Prop} {a1 : Int32} {a2 : Int64} (h : wm_X4_motionsOf a1 a2 z Q) : tq_M K 1 x mm_X4_motionsOf [.ref 28, .int a1, .long a2] z Q := by
  unfold wm_X4_motionsOf at h
  refine tq_enter (L := [.ref 28, .int a1, .long a2, .null, .null, .null, .null]) mf_X4_motionsOf.1 rfl rfl (Nat.le_of_ble_eq_true rfl) ?_
  refine tq_k_lc (n := 0) (v := (0 : Int64)) (by decide +kernel) (by decide +kernel) ?_
  refine tq_s_lstore (i := 4) (L9 := [.ref 28, .int a1, .long a2, .null, .long (0 : Int64), .null, .null]) (by decide +kernel) (by decide) rfl ?_
  refine tq_k_ic (n := 0) (v := (0 : Int32)) (by decide +kernel) kc_0 ?_
  refine tq_s_istore (i := 6) (L9 := [.ref 28, .int a1, .long a2, .null, .long (0 : Int64), .null, .int (0 : Int32)]) (by decide +kernel) (by decide) rfl ?_
  exact ac_X4_motionsOf_6 h
def wm_J9_floorMod_7cf53 (a0 : Int32) (a1 : Int32) (z : tq_S) (Q : tq_O → tq_S → Prop) : Prop := (¬ a1 = 0) ∧ ∀ v1 : Int32, v1 = (a0 - a0 / a1 * a1) → ((0 ≤ (a0 ^^^ a1) → Q (.inl (some (.int v1))) z) ∧ (¬ 0 ≤ (a0 ^^^ a1) → ((v1 = 0 → Q (.inl (some (.int v1))) z) ∧ (¬ v1 = 0 → Q (.inl (some (.int (v1 + a1)))) z))))
theorem am_J9_floorMod_7cf53 {K : Nat × (Nat → Int32)} {x : Nat} {z : tq_S} {Q : tq_O → tq_S → Prop} {a0 : Int32} {a1 : Int32} (h : wm_J9_floorMod_7cf53 a0 a1 z Q) : tq_M K 0 x mm_J9_floorMod_7cf53 [.int a0, .int a1] z Q := by
  unfold wm_J9_floorMod_7cf53 at h
  refine tq_enter (L := [.int a0, .int a1, .null]) mf_J9_floorMod_7cf53.1 rfl rfl (Nat.le_of_ble_eq_true rfl) ?_
  refine tq_s_iload_n (kk := 0) (by decide +kernel) rfl ?_
  refine tq_s_iload_n (kk := 1) (by decide +kernel) rfl ?_
  refine tq_s_irem (by decide +kernel) h.1 ?_
  replace h := h.2
  refine tq_g_istore_n (kk := 2) (fun v1 => [.int a0, .int a1, .int v1]) (by decide +kernel) (by decide) (fun _ => rfl) (fun v1 ev1 => ?_)
  replace h := h v1 ev1
  refine tq_s_iload_n (kk := 0) (by decide +kernel) rfl ?_
  refine tq_s_iload_n (kk := 1) (by decide +kernel) rfl ?_
  refine tq_s_ixor (by decide +kernel) ?_
  refine tq_if_ge (off := 11) (tgt := 18) (by decide +kernel) (by decide +kernel) (fun hc => ?_) (fun hc => ?_)
  · replace h := h.1 hc
    refine tq_s_iload_n (kk := 2) (by decide +kernel) rfl ?_
    exact tq_ret_i (st := []) (by decide +kernel) rfl h
  · replace h := h.2 hc
    refine tq_s_iload_n (kk := 2) (by decide +kernel) rfl ?_
    refine tq_if_eq (off := 7) (tgt := 18) (by decide +kernel) (by decide +kernel) (fun hc => ?_) (fun hc => ?_)
    · replace h := h.1 hc
      refine tq_s_iload_n (kk := 2) (by decide +kernel) rfl ?_
      exact tq_ret_i (st := []) (by decide +kernel) rfl h
    · replace h := h.2 hc
      refine tq_s_iload_n (kk := 2) (by decide +kernel) rfl ?_
      refine tq_s_iload_n (kk := 1) (by decide +kernel) rfl ?_
      refine tq_s_iadd (by decide +kernel) ?_
      exact tq_ret_i (st := []) (by decide +kernel) rfl h
def wc_X4_coveredBy_190 (B40 : Int32 → Int32 → tq_S → Prop) (Q : tq_O → tq_S → Prop) (a1 : Int64) (a4 : Int32) (a5 : Int32) (a6 : Int32) (a7 : Int32) (a8 : Int32) (z : tq_S) : Prop := ∀ v101 : Int32, v101 = a8 + (1 : Int32) → B40 a7 v101 z
theorem ac_X4_coveredBy_190 {K : Nat × (Nat → Int32)} {x : Nat} {Q : tq_O → tq_S → Prop} {B40 : Int32 → Int32 → tq_S → Prop} {a1 : Int64} {a4 : Int32} {a5 : Int32} {a6 : Int32} {a7 : Int32} {a8 : Int32} {z : tq_S} (hB40 : ∀ (b7 : Int32) (b8 : Int32) (z : tq_S), B40 b7 b8 z → tq_T K 1 x mm_X4_coveredBy 40 [.ref 28, .long a1, .null, .null, .int a4, .int a5, .int a6, .int b7, .int b8, .null, .null, .null, .null] [] z Q) (h : wc_X4_coveredBy_190 B40 Q a1 a4 a5 a6 a7 a8 z) : tq_T K 1 x mm_X4_coveredBy 190 [.ref 28, .long a1, .null, .null, .int a4, .int a5, .int a6, .int a7, .int a8, .null, .null, .null, .null] [] z Q := by
  unfold wc_X4_coveredBy_190 at h
  refine tq_g_iinc (i := 8) (fun v101 => [.ref 28, .long a1, .null, .null, .int a4, .int a5, .int a6, .int a7, .int v101, .null, .null, .null, .null]) (by decide +kernel) rfl (1 : Int32) kc_1 (fun _ => rfl) (fun v101 ev101 => ?_)
  replace h := h v101 ev101
  refine tq_s_goto (off := -153) (tgt := 40) (by decide +kernel) (by decide +kernel) ?_
  exact hB40 _ _ _ h
def wc_X4_coveredBy_160 (B40 : Int32 → Int32 → tq_S → Prop) (Q : tq_O → tq_S → Prop) (a1 : Int64) (a4 : Int32) (a5 : Int32) (a6 : Int32) (a7 : Int32) (a8 : Int32) (s0 : Int32) (z : tq_S) : Prop := ((s0 < a4 → Q (.inl (some (.int (0 : Int32)))) z) ∧ (¬ s0 < a4 → (((((Int32.toUInt32 a7) >>> ((Int32.toUInt32 s0) &&& Int32.toUInt32 31)).toInt32 &&& (1 : Int32)) = 0 → ∀ v101 : Int32, v101 = (a7 ||| ((1 : Int32) <<< (s0 &&& 31))) → wc_X4_coveredBy_190 B40 Q a1 a4 a5 a6 v101 a8 z) ∧ (¬ (((Int32.toUInt32 a7) >>> ((Int32.toUInt32 s0) &&& Int32.toUInt32 31)).toInt32 &&& (1 : Int32)) = 0 → Q (.inl (some (.int (0 : Int32)))) z))))
theorem ac_X4_coveredBy_160 {K : Nat × (Nat → Int32)} {x : Nat} {Q : tq_O → tq_S → Prop} {B40 : Int32 → Int32 → tq_S → Prop} {a1 : Int64} {a4 : Int32} {a5 : Int32} {a6 : Int32} {a7 : Int32} {a8 : Int32} {s0 : Int32} {z : tq_S} (hB40 : ∀ (b7 : Int32) (b8 : Int32) (z : tq_S), B40 b7 b8 z → tq_T K 1 x mm_X4_coveredBy 40 [.ref 28, .long a1, .null, .null, .int a4, .int a5, .int a6, .int b7, .int b8, .null, .null, .null, .null] [] z Q) (h : wc_X4_coveredBy_160 B40 Q a1 a4 a5 a6 a7 a8 s0 z) : tq_T K 1 x mm_X4_coveredBy 160 [.ref 28, .long a1, .null, .null, .int a4, .int a5, .int a6, .int a7, .int a8, .null, .null, .null, .null] [.int s0] z Q := by
  unfold wc_X4_coveredBy_160 at h
  refine tq_s_istore (i := 12) (L9 := [.ref 28, .long a1, .null, .null, .int a4, .int a5, .int a6, .int a7, .int a8, .null, .null, .null, .int s0]) (by decide +kernel) (by decide) rfl ?_
  refine tq_s_iload (i := 12) (by decide +kernel) rfl ?_
  refine tq_s_iload (i := 4) (by decide +kernel) rfl ?_
  refine tq_icmp_lt (off := 13) (tgt := 179) (by decide +kernel) (by decide +kernel) (fun hc => ?_) (fun hc => ?_)
  · replace h := h.1 hc
    refine tq_k_ic (n := 0) (v := (0 : Int32)) (by decide +kernel) kc_0 ?_
    exact tq_ret_i (st := []) (by decide +kernel) rfl h
  · replace h := h.2 hc
    refine tq_s_iload (i := 7) (by decide +kernel) rfl ?_
    refine tq_s_iload (i := 12) (by decide +kernel) rfl ?_
    refine tq_s_iushr (by decide +kernel) ?_
    refine tq_k_ic (n := 1) (v := (1 : Int32)) (by decide +kernel) kc_1 ?_
    refine tq_s_iand (by decide +kernel) ?_
    refine tq_if_eq (off := 5) (tgt := 181) (by decide +kernel) (by decide +kernel) (fun hc => ?_) (fun hc => ?_)
    · replace h := h.1 hc
      refine tq_s_iload (i := 7) (by decide +kernel) rfl ?_
      refine tq_k_ic (n := 1) (v := (1 : Int32)) (by decide +kernel) kc_1 ?_
      refine tq_s_iload (i := 12) (by decide +kernel) rfl ?_
      refine tq_s_ishl (by decide +kernel) ?_
      refine tq_s_ior (by decide +kernel) ?_
      refine tq_g_istore (i := 7) (fun v101 => [.ref 28, .long a1, .null, .null, .int a4, .int a5, .int a6, .int v101, .int a8, .null, .null, .null, .int s0]) (by decide +kernel) (by decide) (fun _ => rfl) (fun v101 ev101 => ?_)
      replace h := h v101 ev101
      exact tq_to (tq_lk1 (tq_lk1 (tq_lk1 (tq_lk1 (tq_lk1 (tq_lk1 (tq_lk1 (tq_lk1 (tq_lk1 (tq_lk1 (tq_lk1 (tq_lk1 (tq_ld1 tq_l0))))))))))))) (ac_X4_coveredBy_190 hB40 h)
    · replace h := h.2 hc
      refine tq_k_ic (n := 0) (v := (0 : Int32)) (by decide +kernel) kc_0 ?_
      exact tq_ret_i (st := []) (by decide +kernel) rfl h
def wc_X4_coveredBy_136 (B40 : Int32 → Int32 → tq_S → Prop) (Q : tq_O → tq_S → Prop) (a1 : Int64) (a4 : Int32) (a5 : Int32) (a6 : Int32) (a7 : Int32) (a8 : Int32) (a9 : Int32) (a10 : Int32) (s0 : Int32) (z : tq_S) : Prop := ((s0 = 0 → wc_X4_coveredBy_160 B40 Q a1 a4 a5 a6 a7 a8 (-1 : Int32) z) ∧ (¬ s0 = 0 → vp_in (((8 : Int32) * a10) + a9) 64 ∧ wc_X4_coveredBy_160 B40 Q a1 a4 a5 a6 a7 a8 (tq_ai z 32 (Int32.toNatClampNeg (((8 : Int32) * a10) + a9))) z))
theorem ac_X4_coveredBy_136 {K : Nat × (Nat → Int32)} {x : Nat} {Q : tq_O → tq_S → Prop} {B40 : Int32 → Int32 → tq_S → Prop} {a1 : Int64} {a4 : Int32} {a5 : Int32} {a6 : Int32} {a7 : Int32} {a8 : Int32} {a9 : Int32} {a10 : Int32} {s0 : Int32} {z : tq_S} (hB40 : ∀ (b7 : Int32) (b8 : Int32) (z : tq_S), B40 b7 b8 z → tq_T K 1 x mm_X4_coveredBy 40 [.ref 28, .long a1, .null, .null, .int a4, .int a5, .int a6, .int b7, .int b8, .null, .null, .null, .null] [] z Q) (h : wc_X4_coveredBy_136 B40 Q a1 a4 a5 a6 a7 a8 a9 a10 s0 z) : tq_T K 1 x mm_X4_coveredBy 136 [.ref 28, .long a1, .null, .null, .int a4, .int a5, .int a6, .int a7, .int a8, .int a9, .int a10, .null, .null] [.int s0] z Q := by
  unfold wc_X4_coveredBy_136 at h
  refine tq_s_istore (i := 11) (L9 := [.ref 28, .long a1, .null, .null, .int a4, .int a5, .int a6, .int a7, .int a8, .int a9, .int a10, .int s0, .null]) (by decide +kernel) (by decide) rfl ?_
  refine tq_s_iload (i := 11) (by decide +kernel) rfl ?_
  refine tq_if_eq (off := 19) (tgt := 159) (by decide +kernel) (by decide +kernel) (fun hc => ?_) (fun hc => ?_)
  · replace h := h.1 hc
    refine tq_k_ic (n := -1) (v := (-1 : Int32)) (by decide +kernel) kc_m1 ?_
    exact tq_to (tq_lk1 (tq_lk1 (tq_lk1 (tq_lk1 (tq_lk1 (tq_lk1 (tq_lk1 (tq_lk1 (tq_lk1 (tq_ld1 (tq_ld1 (tq_ld1 (tq_lk1 tq_l0))))))))))))) (ac_X4_coveredBy_160 hB40 h)
  · replace h := h.2 hc
    refine tq_s_aload_n (kk := 0) (by decide +kernel) rfl ?_
    refine fg_4_32_28 rfl (by decide +kernel) ?_
    refine tq_k_bi (n := 8) (v := (8 : Int32)) (by decide +kernel) kb_8 ?_
    refine tq_s_iload (i := 10) (by decide +kernel) rfl ?_
    refine tq_s_imul (by decide +kernel) ?_
    refine tq_s_iload (i := 9) (by decide +kernel) rfl ?_
    refine tq_s_iadd (by decide +kernel) ?_
    refine tq_s_iald (by decide +kernel) sh_32 h.1 ?_
    replace h := h.2
    refine tq_s_goto (off := 4) (tgt := 160) (by decide +kernel) (by decide +kernel) ?_
    exact tq_to (tq_lk1 (tq_lk1 (tq_lk1 (tq_lk1 (tq_lk1 (tq_lk1 (tq_lk1 (tq_lk1 (tq_lk1 (tq_ld1 (tq_ld1 (tq_ld1 (tq_lk1 tq_l0))))))))))))) (ac_X4_coveredBy_160 hB40 h)
def wc_X4_coveredBy_135 (B40 : Int32 → Int32 → tq_S → Prop) (Q : tq_O → tq_S → Prop) (a1 : Int64) (a4 : Int32) (a5 : Int32) (a6 : Int32) (a7 : Int32) (a8 : Int32) (a9 : Int32) (a10 : Int32) (z : tq_S) : Prop := wc_X4_coveredBy_136 B40 Q a1 a4 a5 a6 a7 a8 a9 a10 (0 : Int32) z
theorem ac_X4_coveredBy_135 {K : Nat × (Nat → Int32)} {x : Nat} {Q : tq_O → tq_S → Prop} {B40 : Int32 → Int32 → tq_S → Prop} {a1 : Int64} {a4 : Int32} {a5 : Int32} {a6 : Int32} {a7 : Int32} {a8 : Int32} {a9 : Int32} {a10 : Int32} {z : tq_S} (hB40 : ∀ (b7 : Int32) (b8 : Int32) (z : tq_S), B40 b7 b8 z → tq_T K 1 x mm_X4_coveredBy 40 [.ref 28, .long a1, .null, .null, .int a4, .int a5, .int a6, .int b7, .int b8, .null, .null, .null, .null] [] z Q) (h : wc_X4_coveredBy_135 B40 Q a1 a4 a5 a6 a7 a8 a9 a10 z) : tq_T K 1 x mm_X4_coveredBy 135 [.ref 28, .long a1, .null, .null, .int a4, .int a5, .int a6, .int a7, .int a8, .int a9, .int a10, .null, .null] [] z Q := by
  unfold wc_X4_coveredBy_135 at h
  refine tq_k_ic (n := 0) (v := (0 : Int32)) (by decide +kernel) kc_0 ?_
  exact ac_X4_coveredBy_136 hB40 h
def wc_X4_coveredBy_95 (B40 : Int32 → Int32 → tq_S → Prop) (Q : tq_O → tq_S → Prop) (a1 : Int64) (a4 : Int32) (a5 : Int32) (a6 : Int32) (a7 : Int32) (a8 : Int32) (s0 : Int32) (z : tq_S) : Prop := ∀ v101 : Int32, v101 = (a6 + (a8 / (6 : Int32))) → ((s0 < 0 → wc_X4_coveredBy_135 B40 Q a1 a4 a5 a6 a7 a8 s0 v101 z) ∧ (¬ s0 < 0 → (((8 : Int32) ≤ s0 → wc_X4_coveredBy_135 B40 Q a1 a4 a5 a6 a7 a8 s0 v101 z) ∧ (¬ (8 : Int32) ≤ s0 → ((v101 < 0 → wc_X4_coveredBy_135 B40 Q a1 a4 a5 a6 a7 a8 s0 v101 z) ∧ (¬ v101 < 0 → (((8 : Int32) ≤ v101 → wc_X4_coveredBy_135 B40 Q a1 a4 a5 a6 a7 a8 s0 v101 z) ∧ (¬ (8 : Int32) ≤ v101 → wc_X4_coveredBy_136 B40 Q a1 a4 a5 a6 a7 a8 s0 v101 (1 : Int32) z))))))))
theorem ac_X4_coveredBy_95 {K : Nat × (Nat → Int32)} {x : Nat} {Q : tq_O → tq_S → Prop} {B40 : Int32 → Int32 → tq_S → Prop} {a1 : Int64} {a4 : Int32} {a5 : Int32} {a6 : Int32} {a7 : Int32} {a8 : Int32} {s0 : Int32} {z : tq_S} (hB40 : ∀ (b7 : Int32) (b8 : Int32) (z : tq_S), B40 b7 b8 z → tq_T K 1 x mm_X4_coveredBy 40 [.ref 28, .long a1, .null, .null, .int a4, .int a5, .int a6, .int b7, .int b8, .null, .null, .null, .null] [] z Q) (h : wc_X4_coveredBy_95 B40 Q a1 a4 a5 a6 a7 a8 s0 z) : tq_T K 1 x mm_X4_coveredBy 95 [.ref 28, .long a1, .null, .null, .int a4, .int a5, .int a6, .int a7, .int a8, .null, .null, .null, .null] [.int s0] z Q := by
  unfold wc_X4_coveredBy_95 at h
  refine tq_s_istore (i := 9) (L9 := [.ref 28, .long a1, .null, .null, .int a4, .int a5, .int a6, .int a7, .int a8, .int s0, .null, .null, .null]) (by decide +kernel) (by decide) rfl ?_
  refine tq_s_iload (i := 6) (by decide +kernel) rfl ?_
  refine tq_s_iload (i := 8) (by decide +kernel) rfl ?_
  refine tq_k_bi (n := 6) (v := (6 : Int32)) (by decide +kernel) kb_6 ?_
  refine tq_s_idiv (by decide +kernel) (by decide +kernel) ?_
  refine tq_s_iadd (by decide +kernel) ?_
  refine tq_g_istore (i := 10) (fun v101 => [.ref 28, .long a1, .null, .null, .int a4, .int a5, .int a6, .int a7, .int a8, .int s0, .int v101, .null, .null]) (by decide +kernel) (by decide) (fun _ => rfl) (fun v101 ev101 => ?_)
  replace h := h v101 ev101
  refine tq_s_iload (i := 9) (by decide +kernel) rfl ?_
  refine tq_if_lt (off := 26) (tgt := 135) (by decide +kernel) (by decide +kernel) (fun hc => ?_) (fun hc => ?_)
  · replace h := h.1 hc
    exact ac_X4_coveredBy_135 hB40 h
  · replace h := h.2 hc
    refine tq_s_iload (i := 9) (by decide +kernel) rfl ?_
    refine tq_k_bi (n := 8) (v := (8 : Int32)) (by decide +kernel) kb_8 ?_
    refine tq_icmp_ge (off := 19) (tgt := 135) (by decide +kernel) (by decide +kernel) (fun hc => ?_) (fun hc => ?_)
    · replace h := h.1 hc
      exact ac_X4_coveredBy_135 hB40 h
    · replace h := h.2 hc
      refine tq_s_iload (i := 10) (by decide +kernel) rfl ?_
      refine tq_if_lt (off := 14) (tgt := 135) (by decide +kernel) (by decide +kernel) (fun hc => ?_) (fun hc => ?_)
      · replace h := h.1 hc
        exact ac_X4_coveredBy_135 hB40 h
      · replace h := h.2 hc
        refine tq_s_iload (i := 10) (by decide +kernel) rfl ?_
        refine tq_k_bi (n := 8) (v := (8 : Int32)) (by decide +kernel) kb_8 ?_
        refine tq_icmp_ge (off := 7) (tgt := 135) (by decide +kernel) (by decide +kernel) (fun hc => ?_) (fun hc => ?_)
        · replace h := h.1 hc
          exact ac_X4_coveredBy_135 hB40 h
        · replace h := h.2 hc
          refine tq_k_ic (n := 1) (v := (1 : Int32)) (by decide +kernel) kc_1 ?_
          refine tq_s_goto (off := 4) (tgt := 136) (by decide +kernel) (by decide +kernel) ?_
          exact ac_X4_coveredBy_136 hB40 h
def wb_X4_coveredBy_40 (B40 : Int32 → Int32 → tq_S → Prop) (Q : tq_O → tq_S → Prop) (a1 : Int64) (a4 : Int32) (a5 : Int32) (a6 : Int32) (a7 : Int32) (a8 : Int32) (z : tq_S) : Prop := (((36 : Int32) ≤ a8 → Q (.inl (some (.int a7))) z) ∧ (¬ (36 : Int32) ≤ a8 → (((((Int64.toUInt64 a1) >>> ((Int32.toInt64 a8).toUInt64 &&& Int64.toUInt64 63)).toInt64 &&& (1 : Int64)) = (0 : Int64) → wc_X4_coveredBy_190 B40 Q a1 a4 a5 a6 a7 a8 z) ∧ (¬ (((Int64.toUInt64 a1) >>> ((Int32.toInt64 a8).toUInt64 &&& Int64.toUInt64 63)).toInt64 &&& (1 : Int64)) = (0 : Int64) → ∀ v101 : Int32, v101 = (a5 + (a8 - a8 / (6 : Int32) * (6 : Int32))) → (((tq_fi z 66) = 0 → wc_X4_coveredBy_95 B40 Q a1 a4 a5 a6 a7 a8 v101 z) ∧ (¬ (tq_fi z 66) = 0 → wm_J9_floorMod_7cf53 v101 (tq_fi z 64) z (tq_wi fun r103 z102 => wc_X4_coveredBy_95 B40 Q a1 a4 a5 a6 a7 a8 r103 z102)))))))
def wc_X4_coveredBy_40 (Q : tq_O → tq_S → Prop) (a1 : Int64) (a4 : Int32) (a5 : Int32) (a6 : Int32) (a7 : Int32) (a8 : Int32) (z : tq_S) : Prop := tq_lp (σ := Int32 × Int32 × tq_S) (fun B s => wb_X4_coveredBy_40 (fun b7 b8 z => B (b7, b8, z)) Q a1 a4 a5 a6 s.1 s.2.1 s.2.2) (a7, a8, z)
theorem ab_X4_coveredBy_40 {K : Nat × (Nat → Int32)} {x : Nat} {Q : tq_O → tq_S → Prop} {B40 : Int32 → Int32 → tq_S → Prop} {a1 : Int64} {a4 : Int32} {a5 : Int32} {a6 : Int32} {a7 : Int32} {a8 : Int32} {z : tq_S} (hB40 : ∀ (b7 : Int32) (b8 : Int32) (z : tq_S), B40 b7 b8 z → tq_T K 1 x mm_X4_coveredBy 40 [.ref 28, .long a1, .null, .null, .int a4, .int a5, .int a6, .int b7, .int b8, .null, .null, .null, .null] [] z Q) (h : wb_X4_coveredBy_40 B40 Q a1 a4 a5 a6 a7 a8 z) : tq_T K 1 x mm_X4_coveredBy 40 [.ref 28, .long a1, .null, .null, .int a4, .int a5, .int a6, .int a7, .int a8, .null, .null, .null, .null] [] z Q := by
  unfold wb_X4_coveredBy_40 at h
  refine tq_s_iload (i := 8) (by decide +kernel) rfl ?_
  refine tq_k_bi (n := 36) (v := (36 : Int32)) (by decide +kernel) kb_36 ?_
  refine tq_icmp_ge (off := 152) (tgt := 196) (by decide +kernel) (by decide +kernel) (fun hc => ?_) (fun hc => ?_)
  · replace h := h.1 hc
    refine tq_s_iload (i := 7) (by decide +kernel) rfl ?_
    exact tq_ret_i (st := []) (by decide +kernel) rfl h
  · replace h := h.2 hc
    refine tq_s_lload_n (kk := 1) (by decide +kernel) rfl ?_
    refine tq_s_iload (i := 8) (by decide +kernel) rfl ?_
    refine tq_s_lushr (by decide +kernel) ?_
    refine tq_k_lc (n := 1) (v := (1 : Int64)) (by decide +kernel) (by decide +kernel) ?_
    refine tq_s_land (by decide +kernel) ?_
    refine tq_k_lc (n := 0) (v := (0 : Int64)) (by decide +kernel) (by decide +kernel) ?_
    refine tq_lcmp_eq (off := 135) (tgt := 190) (by decide +kernel) (by decide +kernel) (by decide +kernel) (fun hc => ?_) (fun hc => ?_)
    · replace h := h.1 hc
      exact ac_X4_coveredBy_190 hB40 h
    · replace h := h.2 hc
      refine tq_s_iload (i := 5) (by decide +kernel) rfl ?_
      refine tq_s_iload (i := 8) (by decide +kernel) rfl ?_
      refine tq_k_bi (n := 6) (v := (6 : Int32)) (by decide +kernel) kb_6 ?_
      refine tq_s_irem (by decide +kernel) (by decide +kernel) ?_
      refine tq_s_iadd (by decide +kernel) ?_
      refine tq_g_istore (i := 9) (fun v101 => [.ref 28, .long a1, .null, .null, .int a4, .int a5, .int a6, .int a7, .int a8, .int v101, .null, .null, .null]) (by decide +kernel) (by decide) (fun _ => rfl) (fun v101 ev101 => ?_)
      replace h := h v101 ev101
      refine tq_s_aload_n (kk := 0) (by decide +kernel) rfl ?_
      refine fg_4_11_28 rfl (by decide +kernel) ?_
      refine fg_4_126_1 rfl (by decide +kernel) ?_
      refine tq_if_eq (off := 18) (tgt := 93) (by decide +kernel) (by decide +kernel) (fun hc => ?_) (fun hc => ?_)
      · replace h := h.1 hc
        refine tq_s_iload (i := 9) (by decide +kernel) rfl ?_
        exact tq_to (tq_lk1 (tq_lk1 (tq_lk1 (tq_lk1 (tq_lk1 (tq_lk1 (tq_lk1 (tq_lk1 (tq_lk1 (tq_ld1 (tq_lk1 (tq_lk1 (tq_lk1 tq_l0))))))))))))) (ac_X4_coveredBy_95 hB40 h)
      · replace h := h.2 hc
        refine tq_s_iload (i := 9) (by decide +kernel) rfl ?_
        refine tq_s_aload_n (kk := 0) (by decide +kernel) rfl ?_
        refine fg_4_11_28 rfl (by decide +kernel) ?_
        refine fg_4_130_1 rfl (by decide +kernel) ?_
        refine tq_callS (as := [.int v101, .int (tq_fi z 64)]) (st := []) (d1 := 0) (x1 := 0) (x2 := x) (by decide +kernel) ln_4_200 mf_J9_floorMod_7cf53 rfl (by decide) np_J9_floorMod_7cf53 rfl (Nat.le_of_ble_eq_true rfl) (by decide) (Nat.zero_add _).symm (tq_M_mono (am_J9_floorMod_7cf53 h) ?_)
        refine tq_wi_e (fun r103 z102 h => ?_)
        refine tq_s_goto (off := 5) (tgt := 95) (by decide +kernel) (by decide +kernel) ?_
        exact tq_to (tq_lk1 (tq_lk1 (tq_lk1 (tq_lk1 (tq_lk1 (tq_lk1 (tq_lk1 (tq_lk1 (tq_lk1 (tq_ld1 (tq_lk1 (tq_lk1 (tq_lk1 tq_l0))))))))))))) (ac_X4_coveredBy_95 hB40 h)
theorem ac_X4_coveredBy_40 {K : Nat × (Nat → Int32)} {x : Nat} {Q : tq_O → tq_S → Prop} {a1 : Int64} {a4 : Int32} {a5 : Int32} {a6 : Int32} {a7 : Int32} {a8 : Int32} {z : tq_S} (h : wc_X4_coveredBy_40 Q a1 a4 a5 a6 a7 a8 z) : tq_T K 1 x mm_X4_coveredBy 40 [.ref 28, .long a1, .null, .null, .int a4, .int a5, .int a6, .int a7, .int a8, .null, .null, .null, .null] [] z Q :=
  tq_lp_T (σ := Int32 × Int32 × tq_S) (s := (a7, a8, z)) (G := fun s => tq_T K 1 x mm_X4_coveredBy 40 [.ref 28, .long a1, .null, .null, .int a4, .int a5, .int a6, .int s.1, .int s.2.1, .null, .null, .null, .null] [] s.2.2 Q) (fun B hB s h => ab_X4_coveredBy_40 (fun b7 b8 z h => hB (b7, b8, z) h) h) h
def wm_X4_coveredBy (a1 : Int64) (a3 : Int32) (a4 : Int32) (z : tq_S) (Q : tq_O → tq_S → Prop) : Prop := vp_in a4 24 ∧ ∀ v1 : Int32, v1 = (((tq_ai z 31 (Int32.toNatClampNeg a4)) - (tq_ai z 31 (Int32.toNatClampNeg a4)) / (8 : Int32) * (8 : Int32)) - (a3 - a3 / (6 : Int32) * (6 : Int32))) → vp_in a4 24 ∧ ∀ v2 : Int32, v2 = (((tq_ai z 31 (Int32.toNatClampNeg a4)) / (8 : Int32)) - (a3 / (6 : Int32))) → wc_X4_coveredBy_40 Q a1 a4 v1 v2 (0 : Int32) (0 : Int32) z
theorem am_X4_coveredBy {K : Nat × (Nat → Int32)} {x : Nat} {z : tq_S} {Q : tq_O → tq_S → Prop} {a1 : Int64} {a3 : Int32} {a4 : Int32} (h : wm_X4_coveredBy a1 a3 a4 z Q) : tq_M K 1 x mm_X4_coveredBy [.ref 28, .long a1, .int a3, .int a4] z Q := by
  unfold wm_X4_coveredBy at h
  refine tq_enter (L := [.ref 28, .long a1, .null, .int a3, .int a4, .null, .null, .null, .null, .null, .null, .null, .null]) mf_X4_coveredBy.1 rfl rfl (Nat.le_of_ble_eq_true rfl) ?_
  refine tq_s_aload_n (kk := 0) (by decide +kernel) rfl ?_
  refine fg_4_27_28 rfl (by decide +kernel) ?_
  refine tq_s_iload (i := 4) (by decide +kernel) rfl ?_
  refine tq_s_iald (by decide +kernel) sh_31 h.1 ?_
  replace h := h.2
  refine tq_k_bi (n := 8) (v := (8 : Int32)) (by decide +kernel) kb_8 ?_
  refine tq_s_irem (by decide +kernel) (by decide +kernel) ?_
  refine tq_s_iload_n (kk := 3) (by decide +kernel) rfl ?_
  refine tq_k_bi (n := 6) (v := (6 : Int32)) (by decide +kernel) kb_6 ?_
  refine tq_s_irem (by decide +kernel) (by decide +kernel) ?_
  refine tq_s_isub (by decide +kernel) ?_
  refine tq_g_istore (i := 5) (fun v1 => [.ref 28, .long a1, .null, .int a3, .int a4, .int v1, .null, .null, .null, .null, .null, .null, .null]) (by decide +kernel) (by decide) (fun _ => rfl) (fun v1 ev1 => ?_)
  replace h := h v1 ev1
  refine tq_s_aload_n (kk := 0) (by decide +kernel) rfl ?_
  refine fg_4_27_28 rfl (by decide +kernel) ?_
  refine tq_s_iload (i := 4) (by decide +kernel) rfl ?_
  refine tq_s_iald (by decide +kernel) sh_31 h.1 ?_
  replace h := h.2
  refine tq_k_bi (n := 8) (v := (8 : Int32)) (by decide +kernel) kb_8 ?_
  refine tq_s_idiv (by decide +kernel) (by decide +kernel) ?_
  refine tq_s_iload_n (kk := 3) (by decide +kernel) rfl ?_
  refine tq_k_bi (n := 6) (v := (6 : Int32)) (by decide +kernel) kb_6 ?_
  refine tq_s_idiv (by decide +kernel) (by decide +kernel) ?_
  refine tq_s_isub (by decide +kernel) ?_
  refine tq_g_istore (i := 6) (fun v2 => [.ref 28, .long a1, .null, .int a3, .int a4, .int v1, .int v2, .null, .null, .null, .null, .null, .null]) (by decide +kernel) (by decide) (fun _ => rfl) (fun v2 ev2 => ?_)
  replace h := h v2 ev2
  refine tq_k_ic (n := 0) (v := (0 : Int32)) (by decide +kernel) kc_0 ?_
  refine tq_s_istore (i := 7) (L9 := [.ref 28, .long a1, .null, .int a3, .int a4, .int v1, .int v2, .int (0 : Int32), .null, .null, .null, .null, .null]) (by decide +kernel) (by decide) rfl ?_
  refine tq_k_ic (n := 0) (v := (0 : Int32)) (by decide +kernel) kc_0 ?_
  refine tq_s_istore (i := 8) (L9 := [.ref 28, .long a1, .null, .int a3, .int a4, .int v1, .int v2, .int (0 : Int32), .int (0 : Int32), .null, .null, .null, .null]) (by decide +kernel) (by decide) rfl ?_
  exact tq_to (tq_lk1 (tq_lk1 (tq_lk1 (tq_ld1 (tq_lk1 (tq_lk1 (tq_lk1 (tq_lk1 (tq_lk1 (tq_lk1 (tq_lk1 (tq_lk1 (tq_lk1 tq_l0))))))))))))) (ac_X4_coveredBy_40 h)
def wm_X4_isAhead (a0 : Int64) (a2 : Int64) (z : tq_S) (Q : tq_O → tq_S → Prop) : Prop := ∀ v1 : Int64, v1 = ((a0 ^^^ a2) &&& (16777215 : Int64)) → ((((a0 &&& v1) &&& (-v1)) = (0 : Int64) → Q (.inl (some (.int (0 : Int32)))) z) ∧ (¬ ((a0 &&& v1) &&& (-v1)) = (0 : Int64) → Q (.inl (some (.int (1 : Int32)))) z))
theorem am_X4_isAhead {K : Nat × (Nat → Int32)} {x : Nat} {z : tq_S} {Q : tq_O → tq_S → Prop} {a0 : Int64} {a2 : Int64} (h : wm_X4_isAhead a0 a2 z Q) : tq_M K 0 x mm_X4_isAhead [.long a0, .long a2] z Q := by
  unfold wm_X4_isAhead at h
  refine tq_enter (L := [.long a0, .null, .long a2, .null, .null, .null]) mf_X4_isAhead.1 rfl rfl (Nat.le_of_ble_eq_true rfl) ?_
  refine tq_s_lload_n (kk := 0) (by decide +kernel) rfl ?_
  refine tq_s_lload_n (kk := 2) (by decide +kernel) rfl ?_
  refine tq_s_lxor (by decide +kernel) ?_
  refine tq_s_ldc2 (i := 157) (v := (16777215 : Int64)) (by decide +kernel) (by decide +kernel) ?_
  refine tq_s_land (by decide +kernel) ?_
  refine tq_g_lstore (i := 4) (fun v1 => [.long a0, .null, .long a2, .null, .long v1, .null]) (by decide +kernel) (by decide) (fun _ => rfl) (fun v1 ev1 => ?_)
  replace h := h v1 ev1
  refine tq_s_lload_n (kk := 0) (by decide +kernel) rfl ?_
  refine tq_s_lload (i := 4) (by decide +kernel) rfl ?_
  refine tq_s_land (by decide +kernel) ?_
  refine tq_s_lload (i := 4) (by decide +kernel) rfl ?_
  refine tq_s_lneg (by decide +kernel) ?_
  refine tq_s_land (by decide +kernel) ?_
  refine tq_k_lc (n := 0) (v := (0 : Int64)) (by decide +kernel) (by decide +kernel) ?_
  refine tq_lcmp_eq (off := 7) (tgt := 26) (by decide +kernel) (by decide +kernel) (by decide +kernel) (fun hc => ?_) (fun hc => ?_)
  · replace h := h.1 hc
    refine tq_k_ic (n := 0) (v := (0 : Int32)) (by decide +kernel) kc_0 ?_
    exact tq_ret_z (st := []) (ty := .boolean) (by decide +kernel) (by decide +kernel) rfl h
  · replace h := h.2 hc
    refine tq_k_ic (n := 1) (v := (1 : Int32)) (by decide +kernel) kc_1 ?_
    refine tq_s_goto (off := 4) (tgt := 27) (by decide +kernel) (by decide +kernel) ?_
    exact tq_ret_z (st := []) (ty := .boolean) (by decide +kernel) (by decide +kernel) rfl h
def wc_X4_insert_110 (Q : tq_O → tq_S → Prop) (a2 : Int64) (a4 : Int32) (z : tq_S) : Prop := vp_in a4 1152 ∧ ∀ z101 : tq_S, z101 = tq_sal z 29 (vp_updL (tq_al z 29) (Int32.toNatClampNeg a4) a2) → ∀ z102 : tq_S, z102 = tq_sfi z101 1805 ((tq_fi z101 1805) + (1 : Int32)) → Q (.inl none) z102
theorem ac_X4_insert_110 {K : Nat × (Nat → Int32)} {x : Nat} {Q : tq_O → tq_S → Prop} {a2 : Int64} {a4 : Int32} {z : tq_S} (h : wc_X4_insert_110 Q a2 a4 z) : tq_T K 1 x mm_X4_insert 110 [.ref 28, .null, .long a2, .null, .int a4, .null] [] z Q := by
  unfold wc_X4_insert_110 at h
  refine tq_s_aload_n (kk := 0) (by decide +kernel) rfl ?_
  refine fg_4_19_28 rfl (by decide +kernel) ?_
  refine tq_s_iload (i := 4) (by decide +kernel) rfl ?_
  refine tq_s_lload_n (kk := 2) (by decide +kernel) rfl ?_
  refine tq_g_last (by decide +kernel) sh_29 h.1 (fun z101 ez101 => ?_)
  replace h := h.2 z101 ez101
  refine tq_s_aload_n (kk := 0) (by decide +kernel) rfl ?_
  refine tq_s_dup (by decide +kernel) rfl ?_
  refine fg_4_140_28 rfl (by decide +kernel) ?_
  refine tq_k_ic (n := 1) (v := (1 : Int32)) (by decide +kernel) kc_1 ?_
  refine tq_s_iadd (by decide +kernel) ?_
  refine fp_4_140_28 rfl (by decide +kernel) (fun z102 ez102 => ?_)
  replace h := h z102 ez102
  exact tq_ret_v (st := []) (by decide +kernel) rfl h
def wb_X4_insert_60 (B60 : Int32 → Int32 → tq_S → Prop) (Q : tq_O → tq_S → Prop) (a1 : Int32) (a2 : Int64) (a4 : Int32) (a5 : Int32) (z : tq_S) : Prop := ((a5 ≤ a1 → wc_X4_insert_110 Q a2 a4 z) ∧ (¬ a5 ≤ a1 → vp_in (a5 - (1 : Int32)) 1152 ∧ wm_X4_isAhead a2 (tq_al z 29 (Int32.toNatClampNeg (a5 - (1 : Int32)))) z (tq_wi fun r102 z101 => ((r102 = 0 → wc_X4_insert_110 Q a2 a4 z101) ∧ (¬ r102 = 0 → vp_in (a5 - (1 : Int32)) 1152 ∧ vp_in a5 1152 ∧ ∀ z103 : tq_S, z103 = tq_sal z101 29 (vp_updL (tq_al z101 29) (Int32.toNatClampNeg a5) (tq_al z101 29 (Int32.toNatClampNeg (a5 - (1 : Int32))))) → ∀ v104 : Int32, v104 = (a5 - (1 : Int32)) → ∀ v105 : Int32, v105 = a5 + (-1 : Int32) → B60 v104 v105 z103)))))
def wc_X4_insert_60 (Q : tq_O → tq_S → Prop) (a1 : Int32) (a2 : Int64) (a4 : Int32) (a5 : Int32) (z : tq_S) : Prop := tq_lp (σ := Int32 × Int32 × tq_S) (fun B s => wb_X4_insert_60 (fun b4 b5 z => B (b4, b5, z)) Q a1 a2 s.1 s.2.1 s.2.2) (a4, a5, z)
theorem ab_X4_insert_60 {K : Nat × (Nat → Int32)} {x : Nat} {Q : tq_O → tq_S → Prop} {B60 : Int32 → Int32 → tq_S → Prop} {a1 : Int32} {a2 : Int64} {a4 : Int32} {a5 : Int32} {z : tq_S} (hB60 : ∀ (b4 : Int32) (b5 : Int32) (z : tq_S), B60 b4 b5 z → tq_T K 1 x mm_X4_insert 60 [.ref 28, .int a1, .long a2, .null, .int b4, .int b5] [] z Q) (h : wb_X4_insert_60 B60 Q a1 a2 a4 a5 z) : tq_T K 1 x mm_X4_insert 60 [.ref 28, .int a1, .long a2, .null, .int a4, .int a5] [] z Q := by
  unfold wb_X4_insert_60 at h
  refine tq_s_iload (i := 5) (by decide +kernel) rfl ?_
  refine tq_s_iload_n (kk := 1) (by decide +kernel) rfl ?_
  refine tq_icmp_le (off := 47) (tgt := 110) (by decide +kernel) (by decide +kernel) (fun hc => ?_) (fun hc => ?_)
  · replace h := h.1 hc
    exact tq_to (tq_lk1 (tq_ld1 (tq_lk1 (tq_lk1 (tq_lk1 (tq_ld1 tq_l0)))))) (ac_X4_insert_110 h)
  · replace h := h.2 hc
    refine tq_s_lload_n (kk := 2) (by decide +kernel) rfl ?_
    refine tq_s_aload_n (kk := 0) (by decide +kernel) rfl ?_
    refine fg_4_19_28 rfl (by decide +kernel) ?_
    refine tq_s_iload (i := 5) (by decide +kernel) rfl ?_
    refine tq_k_ic (n := 1) (v := (1 : Int32)) (by decide +kernel) kc_1 ?_
    refine tq_s_isub (by decide +kernel) ?_
    refine tq_s_lald (by decide +kernel) sh_29 h.1 ?_
    replace h := h.2
    refine tq_callS (as := [.long a2, .long (tq_al z 29 (Int32.toNatClampNeg (a5 - (1 : Int32))))]) (st := []) (d1 := 0) (x1 := 0) (x2 := x) (by decide +kernel) ln_4_203 mf_X4_isAhead rfl (by decide) np_X4_isAhead rfl (Nat.le_of_ble_eq_true rfl) (by decide) (Nat.zero_add _).symm (tq_M_mono (am_X4_isAhead h) ?_)
    refine tq_wi_e (fun r102 z101 h => ?_)
    refine tq_if_eq (off := 31) (tgt := 110) (by decide +kernel) (by decide +kernel) (fun hc => ?_) (fun hc => ?_)
    · replace h := h.1 hc
      exact tq_to (tq_lk1 (tq_ld1 (tq_lk1 (tq_lk1 (tq_lk1 (tq_ld1 tq_l0)))))) (ac_X4_insert_110 h)
    · replace h := h.2 hc
      refine tq_s_aload_n (kk := 0) (by decide +kernel) rfl ?_
      refine fg_4_19_28 rfl (by decide +kernel) ?_
      refine tq_s_iload (i := 5) (by decide +kernel) rfl ?_
      refine tq_s_aload_n (kk := 0) (by decide +kernel) rfl ?_
      refine fg_4_19_28 rfl (by decide +kernel) ?_
      refine tq_s_iload (i := 5) (by decide +kernel) rfl ?_
      refine tq_k_ic (n := 1) (v := (1 : Int32)) (by decide +kernel) kc_1 ?_
      refine tq_s_isub (by decide +kernel) ?_
      refine tq_s_lald (by decide +kernel) sh_29 h.1 ?_
      replace h := h.2
      refine tq_g_last (by decide +kernel) sh_29 h.1 (fun z103 ez103 => ?_)
      replace h := h.2 z103 ez103
      refine tq_s_iload (i := 5) (by decide +kernel) rfl ?_
      refine tq_k_ic (n := 1) (v := (1 : Int32)) (by decide +kernel) kc_1 ?_
      refine tq_s_isub (by decide +kernel) ?_
      refine tq_g_istore (i := 4) (fun v104 => [.ref 28, .int a1, .long a2, .null, .int v104, .int a5]) (by decide +kernel) (by decide) (fun _ => rfl) (fun v104 ev104 => ?_)
      replace h := h v104 ev104
      refine tq_g_iinc (i := 5) (fun v105 => [.ref 28, .int a1, .long a2, .null, .int v104, .int v105]) (by decide +kernel) rfl (-1 : Int32) kc_m1 (fun _ => rfl) (fun v105 ev105 => ?_)
      replace h := h v105 ev105
      refine tq_s_goto (off := -47) (tgt := 60) (by decide +kernel) (by decide +kernel) ?_
      exact hB60 _ _ _ h
theorem ac_X4_insert_60 {K : Nat × (Nat → Int32)} {x : Nat} {Q : tq_O → tq_S → Prop} {a1 : Int32} {a2 : Int64} {a4 : Int32} {a5 : Int32} {z : tq_S} (h : wc_X4_insert_60 Q a1 a2 a4 a5 z) : tq_T K 1 x mm_X4_insert 60 [.ref 28, .int a1, .long a2, .null, .int a4, .int a5] [] z Q :=
  tq_lp_T (σ := Int32 × Int32 × tq_S) (s := (a4, a5, z)) (G := fun s => tq_T K 1 x mm_X4_insert 60 [.ref 28, .int a1, .long a2, .null, .int s.1, .int s.2.1] [] s.2.2 Q) (fun B hB s h => ab_X4_insert_60 (fun b4 b5 z h => hB (b4, b5, z) h) h) h
def wc_X4_insert_48 (Q : tq_O → tq_S → Prop) (a1 : Int32) (a2 : Int64) (z : tq_S) : Prop := ∀ v101 : Int32, v101 = (tq_fi z 1805) → ∀ v102 : Int32, v102 = (tq_fi z 1805) → wc_X4_insert_60 Q a1 a2 v101 v102 z
theorem ac_X4_insert_48 {K : Nat × (Nat → Int32)} {x : Nat} {Q : tq_O → tq_S → Prop} {a1 : Int32} {a2 : Int64} {z : tq_S} (h : wc_X4_insert_48 Q a1 a2 z) : tq_T K 1 x mm_X4_insert 48 [.ref 28, .int a1, .long a2, .null, .null, .null] [] z Q := by
  unfold wc_X4_insert_48 at h
  refine tq_s_aload_n (kk := 0) (by decide +kernel) rfl ?_
  refine fg_4_140_28 rfl (by decide +kernel) ?_
  refine tq_g_istore (i := 4) (fun v101 => [.ref 28, .int a1, .long a2, .null, .int v101, .null]) (by decide +kernel) (by decide) (fun _ => rfl) (fun v101 ev101 => ?_)
  replace h := h v101 ev101
  refine tq_s_aload_n (kk := 0) (by decide +kernel) rfl ?_
  refine fg_4_140_28 rfl (by decide +kernel) ?_
  refine tq_g_istore (i := 5) (fun v102 => [.ref 28, .int a1, .long a2, .null, .int v101, .int v102]) (by decide +kernel) (by decide) (fun _ => rfl) (fun v102 ev102 => ?_)
  replace h := h v102 ev102
  exact ac_X4_insert_60 h
def wb_X4_insert_14 (B14 : Int32 → tq_S → Prop) (Q : tq_O → tq_S → Prop) (a1 : Int32) (a2 : Int64) (a4 : Int32) (z : tq_S) : Prop := (((tq_fi z 1805) ≤ a4 → wc_X4_insert_48 Q a1 a2 z) ∧ (¬ (tq_fi z 1805) ≤ a4 → vp_in a4 1152 ∧ ((¬ (((tq_al z 29 (Int32.toNatClampNeg a4)) ^^^ a2) &&& (16777215 : Int64)) = (0 : Int64) → ∀ v101 : Int32, v101 = a4 + (1 : Int32) → B14 v101 z) ∧ ((((tq_al z 29 (Int32.toNatClampNeg a4)) ^^^ a2) &&& (16777215 : Int64)) = (0 : Int64) → Q (.inl none) z))))
def wc_X4_insert_14 (Q : tq_O → tq_S → Prop) (a1 : Int32) (a2 : Int64) (a4 : Int32) (z : tq_S) : Prop := tq_lp (σ := Int32 × tq_S) (fun B s => wb_X4_insert_14 (fun b4 z => B (b4, z)) Q a1 a2 s.1 s.2) (a4, z)
theorem ab_X4_insert_14 {K : Nat × (Nat → Int32)} {x : Nat} {Q : tq_O → tq_S → Prop} {B14 : Int32 → tq_S → Prop} {a1 : Int32} {a2 : Int64} {a4 : Int32} {z : tq_S} (hB14 : ∀ (b4 : Int32) (z : tq_S), B14 b4 z → tq_T K 1 x mm_X4_insert 14 [.ref 28, .int a1, .long a2, .null, .int b4, .null] [] z Q) (h : wb_X4_insert_14 B14 Q a1 a2 a4 z) : tq_T K 1 x mm_X4_insert 14 [.ref 28, .int a1, .long a2, .null, .int a4, .null] [] z Q := by
  unfold wb_X4_insert_14 at h
  refine tq_s_iload (i := 4) (by decide +kernel) rfl ?_
  refine tq_s_aload_n (kk := 0) (by decide +kernel) rfl ?_
  refine fg_4_140_28 rfl (by decide +kernel) ?_
  refine tq_icmp_ge (off := 28) (tgt := 48) (by decide +kernel) (by decide +kernel) (fun hc => ?_) (fun hc => ?_)
  · replace h := h.1 hc
    exact tq_to (tq_lk1 (tq_lk1 (tq_lk1 (tq_lk1 (tq_ld1 (tq_lk1 tq_l0)))))) (ac_X4_insert_48 h)
  · replace h := h.2 hc
    refine tq_s_aload_n (kk := 0) (by decide +kernel) rfl ?_
    refine fg_4_19_28 rfl (by decide +kernel) ?_
    refine tq_s_iload (i := 4) (by decide +kernel) rfl ?_
    refine tq_s_lald (by decide +kernel) sh_29 h.1 ?_
    replace h := h.2
    refine tq_s_lload_n (kk := 2) (by decide +kernel) rfl ?_
    refine tq_s_lxor (by decide +kernel) ?_
    refine tq_s_ldc2 (i := 157) (v := (16777215 : Int64)) (by decide +kernel) (by decide +kernel) ?_
    refine tq_s_land (by decide +kernel) ?_
    refine tq_k_lc (n := 0) (v := (0 : Int64)) (by decide +kernel) (by decide +kernel) ?_
    refine tq_lcmp_ne (off := 4) (tgt := 42) (by decide +kernel) (by decide +kernel) (by decide +kernel) (fun hc => ?_) (fun hc => ?_)
    · replace h := h.1 hc
      refine tq_g_iinc (i := 4) (fun v101 => [.ref 28, .int a1, .long a2, .null, .int v101, .null]) (by decide +kernel) rfl (1 : Int32) kc_1 (fun _ => rfl) (fun v101 ev101 => ?_)
      replace h := h v101 ev101
      refine tq_s_goto (off := -31) (tgt := 14) (by decide +kernel) (by decide +kernel) ?_
      exact hB14 _ _ h
    · replace h := h.2 hc
      exact tq_ret_v (st := []) (by decide +kernel) rfl h
theorem ac_X4_insert_14 {K : Nat × (Nat → Int32)} {x : Nat} {Q : tq_O → tq_S → Prop} {a1 : Int32} {a2 : Int64} {a4 : Int32} {z : tq_S} (h : wc_X4_insert_14 Q a1 a2 a4 z) : tq_T K 1 x mm_X4_insert 14 [.ref 28, .int a1, .long a2, .null, .int a4, .null] [] z Q :=
  tq_lp_T (σ := Int32 × tq_S) (s := (a4, z)) (G := fun s => tq_T K 1 x mm_X4_insert 14 [.ref 28, .int a1, .long a2, .null, .int s.1, .null] [] s.2 Q) (fun B hB s h => ab_X4_insert_14 (fun b4 z h => hB (b4, z) h) h) h
def wm_X4_insert (a1 : Int32) (a2 : Int64) (z : tq_S) (Q : tq_O → tq_S → Prop) : Prop := (((tq_fi z 1805) < (1152 : Int32) → wc_X4_insert_14 Q a1 a2 a1 z) ∧ (¬ (tq_fi z 1805) < (1152 : Int32) → Q (.inl none) z))
theorem am_X4_insert {K : Nat × (Nat → Int32)} {x : Nat} {z : tq_S} {Q : tq_O → tq_S → Prop} {a1 : Int32} {a2 : Int64} (h : wm_X4_insert a1 a2 z Q) : tq_M K 1 x mm_X4_insert [.ref 28, .int a1, .long a2] z Q := by
  unfold wm_X4_insert at h
  refine tq_enter (L := [.ref 28, .int a1, .long a2, .null, .null, .null]) mf_X4_insert.1 rfl rfl (Nat.le_of_ble_eq_true rfl) ?_
  refine tq_s_aload_n (kk := 0) (by decide +kernel) rfl ?_
  refine fg_4_140_28 rfl (by decide +kernel) ?_
  refine tq_k_si (n := 1152) (v := (1152 : Int32)) (by decide +kernel) ks_1152 ?_
  refine tq_icmp_lt (off := 4) (tgt := 11) (by decide +kernel) (by decide +kernel) (fun hc => ?_) (fun hc => ?_)
  · replace h := h.1 hc
    refine tq_s_iload_n (kk := 1) (by decide +kernel) rfl ?_
    refine tq_s_istore (i := 4) (L9 := [.ref 28, .int a1, .long a2, .null, .int a1, .null]) (by decide +kernel) (by decide) rfl ?_
    exact ac_X4_insert_14 h
  · replace h := h.2 hc
    exact tq_ret_v (st := []) (by decide +kernel) rfl h
def wc_X4_collectKind_107 (B8 : Int32 → tq_S → Prop) (B57 : Int32 → tq_S → Prop) (Q : tq_O → tq_S → Prop) (a1 : Int32) (a2 : Int32) (a3 : Int32) (a4 : Int32) (a5 : Int64) (a7 : Int64) (a9 : Int32) (z : tq_S) : Prop := ∀ v101 : Int32, v101 = a9 + (1 : Int32) → B57 v101 z
theorem ac_X4_collectKind_107 {K : Nat × (Nat → Int32)} {x : Nat} {Q : tq_O → tq_S → Prop} {B8 : Int32 → tq_S → Prop} {B57 : Int32 → tq_S → Prop} {a1 : Int32} {a2 : Int32} {a3 : Int32} {a4 : Int32} {a5 : Int64} {a7 : Int64} {a9 : Int32} {z : tq_S} (hB8 : ∀ (b4 : Int32) (z : tq_S), B8 b4 z → tq_T K 2 x mm_X4_collectKind 8 [.ref 28, .int a1, .int a2, .int a3, .int b4, .null, .null, .null, .null, .null, .null] [] z Q) (hB57 : ∀ (b9 : Int32) (z : tq_S), B57 b9 z → tq_T K 2 x mm_X4_collectKind 57 [.ref 28, .int a1, .int a2, .int a3, .int a4, .long a5, .null, .long a7, .null, .int b9, .null] [] z Q) (h : wc_X4_collectKind_107 B8 B57 Q a1 a2 a3 a4 a5 a7 a9 z) : tq_T K 2 x mm_X4_collectKind 107 [.ref 28, .int a1, .int a2, .int a3, .int a4, .long a5, .null, .long a7, .null, .int a9, .null] [] z Q := by
  unfold wc_X4_collectKind_107 at h
  refine tq_g_iinc (i := 9) (fun v101 => [.ref 28, .int a1, .int a2, .int a3, .int a4, .long a5, .null, .long a7, .null, .int v101, .null]) (by decide +kernel) rfl (1 : Int32) kc_1 (fun _ => rfl) (fun v101 ev101 => ?_)
  replace h := h v101 ev101
  refine tq_s_goto (off := -53) (tgt := 57) (by decide +kernel) (by decide +kernel) ?_
  exact hB57 _ _ h
def wc_X4_collectKind_89 (B8 : Int32 → tq_S → Prop) (B57 : Int32 → tq_S → Prop) (Q : tq_O → tq_S → Prop) (a1 : Int32) (a2 : Int32) (a3 : Int32) (a4 : Int32) (a5 : Int64) (a7 : Int64) (a9 : Int32) (s0 : Int32) (z : tq_S) : Prop := ((s0 = 0 → wc_X4_collectKind_107 B8 B57 Q a1 a2 a3 a4 a5 a7 a9 z) ∧ (¬ s0 = 0 → wm_X4_insert a3 (a7 ||| (Int32.toInt64 s0)) z (tq_wv fun z101 => wc_X4_collectKind_107 B8 B57 Q a1 a2 a3 a4 a5 a7 a9 z101)))
theorem ac_X4_collectKind_89 {K : Nat × (Nat → Int32)} {x : Nat} {Q : tq_O → tq_S → Prop} {B8 : Int32 → tq_S → Prop} {B57 : Int32 → tq_S → Prop} {a1 : Int32} {a2 : Int32} {a3 : Int32} {a4 : Int32} {a5 : Int64} {a7 : Int64} {a9 : Int32} {s0 : Int32} {z : tq_S} (hB8 : ∀ (b4 : Int32) (z : tq_S), B8 b4 z → tq_T K 2 x mm_X4_collectKind 8 [.ref 28, .int a1, .int a2, .int a3, .int b4, .null, .null, .null, .null, .null, .null] [] z Q) (hB57 : ∀ (b9 : Int32) (z : tq_S), B57 b9 z → tq_T K 2 x mm_X4_collectKind 57 [.ref 28, .int a1, .int a2, .int a3, .int a4, .long a5, .null, .long a7, .null, .int b9, .null] [] z Q) (h : wc_X4_collectKind_89 B8 B57 Q a1 a2 a3 a4 a5 a7 a9 s0 z) : tq_T K 2 x mm_X4_collectKind 89 [.ref 28, .int a1, .int a2, .int a3, .int a4, .long a5, .null, .long a7, .null, .int a9, .null] [.int s0] z Q := by
  unfold wc_X4_collectKind_89 at h
  refine tq_s_istore (i := 10) (L9 := [.ref 28, .int a1, .int a2, .int a3, .int a4, .long a5, .null, .long a7, .null, .int a9, .int s0]) (by decide +kernel) (by decide) rfl ?_
  refine tq_s_iload (i := 10) (by decide +kernel) rfl ?_
  refine tq_if_eq (off := 14) (tgt := 107) (by decide +kernel) (by decide +kernel) (fun hc => ?_) (fun hc => ?_)
  · replace h := h.1 hc
    exact tq_to (tq_lk1 (tq_lk1 (tq_lk1 (tq_lk1 (tq_lk1 (tq_lk1 (tq_lk1 (tq_lk1 (tq_lk1 (tq_lk1 (tq_ld1 tq_l0))))))))))) (ac_X4_collectKind_107 hB8 hB57 h)
  · replace h := h.2 hc
    refine tq_s_aload_n (kk := 0) (by decide +kernel) rfl ?_
    refine tq_s_iload_n (kk := 3) (by decide +kernel) rfl ?_
    refine tq_s_lload (i := 7) (by decide +kernel) rfl ?_
    refine tq_s_iload (i := 10) (by decide +kernel) rfl ?_
    refine tq_s_i2l (by decide +kernel) ?_
    refine tq_s_lor (by decide +kernel) ?_
    refine tq_callV (as := [.int a3, .long (a7 ||| (Int32.toInt64 s0))]) (st := []) (d1 := 1) (x1 := 0) (x2 := x) (by decide +kernel) ln_4_189 mf_X4_insert rfl sh_28 rfl (by decide) np_X4_insert rfl (Nat.le_of_ble_eq_true rfl) (by decide) (Nat.zero_add _).symm (tq_M_mono (am_X4_insert h) ?_)
    refine tq_wv_e (fun z101 h => ?_)
    exact tq_to (tq_lk1 (tq_lk1 (tq_lk1 (tq_lk1 (tq_lk1 (tq_lk1 (tq_lk1 (tq_lk1 (tq_lk1 (tq_lk1 (tq_ld1 tq_l0))))))))))) (ac_X4_collectKind_107 hB8 hB57 h)
def wc_X4_collectKind_113 (B8 : Int32 → tq_S → Prop) (Q : tq_O → tq_S → Prop) (a1 : Int32) (a2 : Int32) (a3 : Int32) (a4 : Int32) (z : tq_S) : Prop := ∀ v101 : Int32, v101 = a4 + (1 : Int32) → B8 v101 z
theorem ac_X4_collectKind_113 {K : Nat × (Nat → Int32)} {x : Nat} {Q : tq_O → tq_S → Prop} {B8 : Int32 → tq_S → Prop} {a1 : Int32} {a2 : Int32} {a3 : Int32} {a4 : Int32} {z : tq_S} (hB8 : ∀ (b4 : Int32) (z : tq_S), B8 b4 z → tq_T K 2 x mm_X4_collectKind 8 [.ref 28, .int a1, .int a2, .int a3, .int b4, .null, .null, .null, .null, .null, .null] [] z Q) (h : wc_X4_collectKind_113 B8 Q a1 a2 a3 a4 z) : tq_T K 2 x mm_X4_collectKind 113 [.ref 28, .int a1, .int a2, .int a3, .int a4, .null, .null, .null, .null, .null, .null] [] z Q := by
  unfold wc_X4_collectKind_113 at h
  refine tq_g_iinc (i := 4) (fun v101 => [.ref 28, .int a1, .int a2, .int a3, .int v101, .null, .null, .null, .null, .null, .null]) (by decide +kernel) rfl (1 : Int32) kc_1 (fun _ => rfl) (fun v101 ev101 => ?_)
  replace h := h v101 ev101
  refine tq_s_goto (off := -108) (tgt := 8) (by decide +kernel) (by decide +kernel) ?_
  exact hB8 _ _ h
def wb_X4_collectKind_57 (B8 : Int32 → tq_S → Prop) (B57 : Int32 → tq_S → Prop) (Q : tq_O → tq_S → Prop) (a1 : Int32) (a2 : Int32) (a3 : Int32) (a4 : Int32) (a5 : Int64) (a7 : Int64) (a9 : Int32) (z : tq_S) : Prop := (((6 : Int32) ≤ a9 → wc_X4_collectKind_113 B8 Q a1 a2 a3 a4 z) ∧ (¬ (6 : Int32) ≤ a9 → (((((Int64.toUInt64 a5) >>> ((Int32.toInt64 a9).toUInt64 &&& Int64.toUInt64 63)).toInt64 &&& (1 : Int64)) = (0 : Int64) → wc_X4_collectKind_89 B8 B57 Q a1 a2 a3 a4 a5 a7 a9 (0 : Int32) z) ∧ (¬ (((Int64.toUInt64 a5) >>> ((Int32.toInt64 a9).toUInt64 &&& Int64.toUInt64 63)).toInt64 &&& (1 : Int64)) = (0 : Int64) → wm_X4_coveredBy a5 a9 a1 z (tq_wi fun r102 z101 => wc_X4_collectKind_89 B8 B57 Q a1 a2 a3 a4 a5 a7 a9 r102 z101)))))
def wc_X4_collectKind_57 (B8 : Int32 → tq_S → Prop) (Q : tq_O → tq_S → Prop) (a1 : Int32) (a2 : Int32) (a3 : Int32) (a4 : Int32) (a5 : Int64) (a7 : Int64) (a9 : Int32) (z : tq_S) : Prop := tq_lp (σ := Int32 × tq_S) (fun B s => wb_X4_collectKind_57 B8 (fun b9 z => B (b9, z)) Q a1 a2 a3 a4 a5 a7 s.1 s.2) (a9, z)
theorem ab_X4_collectKind_57 {K : Nat × (Nat → Int32)} {x : Nat} {Q : tq_O → tq_S → Prop} {B8 : Int32 → tq_S → Prop} {B57 : Int32 → tq_S → Prop} {a1 : Int32} {a2 : Int32} {a3 : Int32} {a4 : Int32} {a5 : Int64} {a7 : Int64} {a9 : Int32} {z : tq_S} (hB8 : ∀ (b4 : Int32) (z : tq_S), B8 b4 z → tq_T K 2 x mm_X4_collectKind 8 [.ref 28, .int a1, .int a2, .int a3, .int b4, .null, .null, .null, .null, .null, .null] [] z Q) (hB57 : ∀ (b9 : Int32) (z : tq_S), B57 b9 z → tq_T K 2 x mm_X4_collectKind 57 [.ref 28, .int a1, .int a2, .int a3, .int a4, .long a5, .null, .long a7, .null, .int b9, .null] [] z Q) (h : wb_X4_collectKind_57 B8 B57 Q a1 a2 a3 a4 a5 a7 a9 z) : tq_T K 2 x mm_X4_collectKind 57 [.ref 28, .int a1, .int a2, .int a3, .int a4, .long a5, .null, .long a7, .null, .int a9, .null] [] z Q := by
  unfold wb_X4_collectKind_57 at h
  refine tq_s_iload (i := 9) (by decide +kernel) rfl ?_
  refine tq_k_bi (n := 6) (v := (6 : Int32)) (by decide +kernel) kb_6 ?_
  refine tq_icmp_ge (off := 52) (tgt := 113) (by decide +kernel) (by decide +kernel) (fun hc => ?_) (fun hc => ?_)
  · replace h := h.1 hc
    exact tq_to (tq_lk1 (tq_lk1 (tq_lk1 (tq_lk1 (tq_lk1 (tq_ld1 (tq_lk1 (tq_ld1 (tq_lk1 (tq_ld1 (tq_lk1 tq_l0))))))))))) (ac_X4_collectKind_113 hB8 h)
  · replace h := h.2 hc
    refine tq_s_lload (i := 5) (by decide +kernel) rfl ?_
    refine tq_s_iload (i := 9) (by decide +kernel) rfl ?_
    refine tq_s_lushr (by decide +kernel) ?_
    refine tq_k_lc (n := 1) (v := (1 : Int64)) (by decide +kernel) (by decide +kernel) ?_
    refine tq_s_land (by decide +kernel) ?_
    refine tq_k_lc (n := 0) (v := (0 : Int64)) (by decide +kernel) (by decide +kernel) ?_
    refine tq_lcmp_eq (off := 15) (tgt := 88) (by decide +kernel) (by decide +kernel) (by decide +kernel) (fun hc => ?_) (fun hc => ?_)
    · replace h := h.1 hc
      refine tq_k_ic (n := 0) (v := (0 : Int32)) (by decide +kernel) kc_0 ?_
      exact ac_X4_collectKind_89 hB8 hB57 h
    · replace h := h.2 hc
      refine tq_s_aload_n (kk := 0) (by decide +kernel) rfl ?_
      refine tq_s_lload (i := 5) (by decide +kernel) rfl ?_
      refine tq_s_iload (i := 9) (by decide +kernel) rfl ?_
      refine tq_s_iload_n (kk := 1) (by decide +kernel) rfl ?_
      refine tq_callV (as := [.long a5, .int a9, .int a1]) (st := []) (d1 := 1) (x1 := 0) (x2 := x) (by decide +kernel) ln_4_185 mf_X4_coveredBy rfl sh_28 rfl (by decide) np_X4_coveredBy rfl (Nat.le_of_ble_eq_true rfl) (by decide) (Nat.zero_add _).symm (tq_M_mono (am_X4_coveredBy h) ?_)
      refine tq_wi_e (fun r102 z101 h => ?_)
      refine tq_s_goto (off := 4) (tgt := 89) (by decide +kernel) (by decide +kernel) ?_
      exact ac_X4_collectKind_89 hB8 hB57 h
theorem ac_X4_collectKind_57 {K : Nat × (Nat → Int32)} {x : Nat} {Q : tq_O → tq_S → Prop} {B8 : Int32 → tq_S → Prop} {a1 : Int32} {a2 : Int32} {a3 : Int32} {a4 : Int32} {a5 : Int64} {a7 : Int64} {a9 : Int32} {z : tq_S} (hB8 : ∀ (b4 : Int32) (z : tq_S), B8 b4 z → tq_T K 2 x mm_X4_collectKind 8 [.ref 28, .int a1, .int a2, .int a3, .int b4, .null, .null, .null, .null, .null, .null] [] z Q) (h : wc_X4_collectKind_57 B8 Q a1 a2 a3 a4 a5 a7 a9 z) : tq_T K 2 x mm_X4_collectKind 57 [.ref 28, .int a1, .int a2, .int a3, .int a4, .long a5, .null, .long a7, .null, .int a9, .null] [] z Q :=
  tq_lp_T (σ := Int32 × tq_S) (s := (a9, z)) (G := fun s => tq_T K 2 x mm_X4_collectKind 57 [.ref 28, .int a1, .int a2, .int a3, .int a4, .long a5, .null, .long a7, .null, .int s.1, .null] [] s.2 Q) (fun B hB s h => ab_X4_collectKind_57 hB8 (fun b9 z h => hB (b9, z) h) h) h
def wb_X4_collectKind_8 (B8 : Int32 → tq_S → Prop) (Q : tq_O → tq_S → Prop) (a1 : Int32) (a2 : Int32) (a3 : Int32) (a4 : Int32) (z : tq_S) : Prop := vp_in a2 6 ∧ (((tq_ai z 25 (Int32.toNatClampNeg a2)) ≤ a4 → Q (.inl none) z) ∧ (¬ (tq_ai z 25 (Int32.toNatClampNeg a2)) ≤ a4 → vp_in ((a2 * (8 : Int32)) + a4) 48 ∧ ∀ v101 : Int64, v101 = (tq_al z 24 (Int32.toNatClampNeg ((a2 * (8 : Int32)) + a4))) → wm_X4_motionsOf a2 v101 z (tq_wl fun r103 z102 => ∀ v104 : Int64, v104 = (((Int32.toInt64 a2) <<< ((Int32.toInt64 (32 : Int32)) &&& 63)) ||| r103) → wc_X4_collectKind_57 B8 Q a1 a2 a3 a4 v101 v104 (0 : Int32) z102)))
def wc_X4_collectKind_8 (Q : tq_O → tq_S → Prop) (a1 : Int32) (a2 : Int32) (a3 : Int32) (a4 : Int32) (z : tq_S) : Prop := tq_lp (σ := Int32 × tq_S) (fun B s => wb_X4_collectKind_8 (fun b4 z => B (b4, z)) Q a1 a2 a3 s.1 s.2) (a4, z)
theorem ab_X4_collectKind_8 {K : Nat × (Nat → Int32)} {x : Nat} {Q : tq_O → tq_S → Prop} {B8 : Int32 → tq_S → Prop} {a1 : Int32} {a2 : Int32} {a3 : Int32} {a4 : Int32} {z : tq_S} (hB8 : ∀ (b4 : Int32) (z : tq_S), B8 b4 z → tq_T K 2 x mm_X4_collectKind 8 [.ref 28, .int a1, .int a2, .int a3, .int b4, .null, .null, .null, .null, .null, .null] [] z Q) (h : wb_X4_collectKind_8 B8 Q a1 a2 a3 a4 z) : tq_T K 2 x mm_X4_collectKind 8 [.ref 28, .int a1, .int a2, .int a3, .int a4, .null, .null, .null, .null, .null, .null] [] z Q := by
  unfold wb_X4_collectKind_8 at h
  refine tq_s_iload (i := 4) (by decide +kernel) rfl ?_
  refine tq_s_aload_n (kk := 0) (by decide +kernel) rfl ?_
  refine fg_4_15_28 rfl (by decide +kernel) ?_
  refine fg_4_175_23 rfl (by decide +kernel) ?_
  refine tq_s_iload_n (kk := 2) (by decide +kernel) rfl ?_
  refine tq_s_iald (by decide +kernel) sh_25 h.1 ?_
  replace h := h.2
  refine tq_icmp_ge (off := 100) (tgt := 119) (by decide +kernel) (by decide +kernel) (fun hc => ?_) (fun hc => ?_)
  · replace h := h.1 hc
    exact tq_ret_v (st := []) (by decide +kernel) rfl h
  · replace h := h.2 hc
    refine tq_s_aload_n (kk := 0) (by decide +kernel) rfl ?_
    refine fg_4_15_28 rfl (by decide +kernel) ?_
    refine fg_4_178_23 rfl (by decide +kernel) ?_
    refine tq_s_iload_n (kk := 2) (by decide +kernel) rfl ?_
    refine tq_k_bi (n := 8) (v := (8 : Int32)) (by decide +kernel) kb_8 ?_
    refine tq_s_imul (by decide +kernel) ?_
    refine tq_s_iload (i := 4) (by decide +kernel) rfl ?_
    refine tq_s_iadd (by decide +kernel) ?_
    refine tq_s_lald (by decide +kernel) sh_24 h.1 ?_
    replace h := h.2
    refine tq_g_lstore (i := 5) (fun v101 => [.ref 28, .int a1, .int a2, .int a3, .int a4, .long v101, .null, .null, .null, .null, .null]) (by decide +kernel) (by decide) (fun _ => rfl) (fun v101 ev101 => ?_)
    replace h := h v101 ev101
    refine tq_s_iload_n (kk := 2) (by decide +kernel) rfl ?_
    refine tq_s_i2l (by decide +kernel) ?_
    refine tq_k_bi (n := 32) (v := (32 : Int32)) (by decide +kernel) kb_32 ?_
    refine tq_s_lshl (by decide +kernel) ?_
    refine tq_s_aload_n (kk := 0) (by decide +kernel) rfl ?_
    refine tq_s_iload_n (kk := 2) (by decide +kernel) rfl ?_
    refine tq_s_lload (i := 5) (by decide +kernel) rfl ?_
    refine tq_callV (as := [.int a2, .long v101]) (st := [.long ((Int32.toInt64 a2) <<< ((Int32.toInt64 (32 : Int32)) &&& 63))]) (d1 := 1) (x1 := 0) (x2 := x) (by decide +kernel) ln_4_181 mf_X4_motionsOf rfl sh_28 rfl (by decide) np_X4_motionsOf rfl (Nat.le_of_ble_eq_true rfl) (by decide) (Nat.zero_add _).symm (tq_M_mono (am_X4_motionsOf h) ?_)
    refine tq_wl_e (fun r103 z102 h => ?_)
    refine tq_s_lor (by decide +kernel) ?_
    refine tq_g_lstore (i := 7) (fun v104 => [.ref 28, .int a1, .int a2, .int a3, .int a4, .long v101, .null, .long v104, .null, .null, .null]) (by decide +kernel) (by decide) (fun _ => rfl) (fun v104 ev104 => ?_)
    replace h := h v104 ev104
    refine tq_k_ic (n := 0) (v := (0 : Int32)) (by decide +kernel) kc_0 ?_
    refine tq_s_istore (i := 9) (L9 := [.ref 28, .int a1, .int a2, .int a3, .int a4, .long v101, .null, .long v104, .null, .int (0 : Int32), .null]) (by decide +kernel) (by decide) rfl ?_
    exact ac_X4_collectKind_57 hB8 h
theorem ac_X4_collectKind_8 {K : Nat × (Nat → Int32)} {x : Nat} {Q : tq_O → tq_S → Prop} {a1 : Int32} {a2 : Int32} {a3 : Int32} {a4 : Int32} {z : tq_S} (h : wc_X4_collectKind_8 Q a1 a2 a3 a4 z) : tq_T K 2 x mm_X4_collectKind 8 [.ref 28, .int a1, .int a2, .int a3, .int a4, .null, .null, .null, .null, .null, .null] [] z Q :=
  tq_lp_T (σ := Int32 × tq_S) (s := (a4, z)) (G := fun s => tq_T K 2 x mm_X4_collectKind 8 [.ref 28, .int a1, .int a2, .int a3, .int s.1, .null, .null, .null, .null, .null, .null] [] s.2 Q) (fun B hB s h => ab_X4_collectKind_8 (fun b4 z h => hB (b4, z) h) h) h
def wm_X4_collectKind (a1 : Int32) (a2 : Int32) (z : tq_S) (Q : tq_O → tq_S → Prop) : Prop := ∀ v1 : Int32, v1 = (tq_fi z 1805) → wc_X4_collectKind_8 Q a1 a2 v1 (0 : Int32) z
theorem am_X4_collectKind {K : Nat × (Nat → Int32)} {x : Nat} {z : tq_S} {Q : tq_O → tq_S → Prop} {a1 : Int32} {a2 : Int32} (h : wm_X4_collectKind a1 a2 z Q) : tq_M K 2 x mm_X4_collectKind [.ref 28, .int a1, .int a2] z Q := by
  unfold wm_X4_collectKind at h
  refine tq_enter (L := [.ref 28, .int a1, .int a2, .null, .null, .null, .null, .null, .null, .null, .null]) mf_X4_collectKind.1 rfl rfl (Nat.le_of_ble_eq_true rfl) ?_
  refine tq_s_aload_n (kk := 0) (by decide +kernel) rfl ?_
  refine fg_4_140_28 rfl (by decide +kernel) ?_
  refine tq_g_istore_n (kk := 3) (fun v1 => [.ref 28, .int a1, .int a2, .int v1, .null, .null, .null, .null, .null, .null, .null]) (by decide +kernel) (by decide) (fun _ => rfl) (fun v1 ev1 => ?_)
  replace h := h v1 ev1
  refine tq_k_ic (n := 0) (v := (0 : Int32)) (by decide +kernel) kc_0 ?_
  refine tq_s_istore (i := 4) (L9 := [.ref 28, .int a1, .int a2, .int v1, .int (0 : Int32), .null, .null, .null, .null, .null, .null]) (by decide +kernel) (by decide) rfl ?_
  exact ac_X4_collectKind_8 h
def wc_X4_collect_50 (B7 : Int32 → tq_S → Prop) (Q : tq_O → tq_S → Prop) (a1 : Int32) (z : tq_S) : Prop := ∀ v101 : Int32, v101 = a1 + (1 : Int32) → B7 v101 z
theorem ac_X4_collect_50 {K : Nat × (Nat → Int32)} {x : Nat} {Q : tq_O → tq_S → Prop} {B7 : Int32 → tq_S → Prop} {a1 : Int32} {z : tq_S} (hB7 : ∀ (b1 : Int32) (z : tq_S), B7 b1 z → tq_T K 3 x mm_X4_collect 7 [.ref 28, .int b1, .null] [] z Q) (h : wc_X4_collect_50 B7 Q a1 z) : tq_T K 3 x mm_X4_collect 50 [.ref 28, .int a1, .null] [] z Q := by
  unfold wc_X4_collect_50 at h
  refine tq_g_iinc (i := 1) (fun v101 => [.ref 28, .int v101, .null]) (by decide +kernel) rfl (1 : Int32) kc_1 (fun _ => rfl) (fun v101 ev101 => ?_)
  replace h := h v101 ev101
  refine tq_s_goto (off := -46) (tgt := 7) (by decide +kernel) (by decide +kernel) ?_
  exact hB7 _ _ h
def wb_X4_collect_27 (B7 : Int32 → tq_S → Prop) (B27 : Int32 → tq_S → Prop) (Q : tq_O → tq_S → Prop) (a1 : Int32) (a2 : Int32) (z : tq_S) : Prop := (((tq_fi z 1477) ≤ a2 → wc_X4_collect_50 B7 Q a1 z) ∧ (¬ (tq_fi z 1477) ≤ a2 → wm_X4_collectKind a1 a2 z (tq_wv fun z101 => ∀ v102 : Int32, v102 = a2 + (1 : Int32) → B27 v102 z101)))
def wc_X4_collect_27 (B7 : Int32 → tq_S → Prop) (Q : tq_O → tq_S → Prop) (a1 : Int32) (a2 : Int32) (z : tq_S) : Prop := tq_lp (σ := Int32 × tq_S) (fun B s => wb_X4_collect_27 B7 (fun b2 z => B (b2, z)) Q a1 s.1 s.2) (a2, z)
theorem ab_X4_collect_27 {K : Nat × (Nat → Int32)} {x : Nat} {Q : tq_O → tq_S → Prop} {B7 : Int32 → tq_S → Prop} {B27 : Int32 → tq_S → Prop} {a1 : Int32} {a2 : Int32} {z : tq_S} (hB7 : ∀ (b1 : Int32) (z : tq_S), B7 b1 z → tq_T K 3 x mm_X4_collect 7 [.ref 28, .int b1, .null] [] z Q) (hB27 : ∀ (b2 : Int32) (z : tq_S), B27 b2 z → tq_T K 3 x mm_X4_collect 27 [.ref 28, .int a1, .int b2] [] z Q) (h : wb_X4_collect_27 B7 B27 Q a1 a2 z) : tq_T K 3 x mm_X4_collect 27 [.ref 28, .int a1, .int a2] [] z Q := by
  unfold wb_X4_collect_27 at h
  refine tq_s_iload_n (kk := 2) (by decide +kernel) rfl ?_
  refine tq_s_aload_n (kk := 0) (by decide +kernel) rfl ?_
  refine fg_4_15_28 rfl (by decide +kernel) ?_
  refine fg_4_143_23 rfl (by decide +kernel) ?_
  refine tq_icmp_ge (off := 15) (tgt := 50) (by decide +kernel) (by decide +kernel) (fun hc => ?_) (fun hc => ?_)
  · replace h := h.1 hc
    exact tq_to (tq_lk1 (tq_lk1 (tq_ld1 tq_l0))) (ac_X4_collect_50 hB7 h)
  · replace h := h.2 hc
    refine tq_s_aload_n (kk := 0) (by decide +kernel) rfl ?_
    refine tq_s_iload_n (kk := 1) (by decide +kernel) rfl ?_
    refine tq_s_iload_n (kk := 2) (by decide +kernel) rfl ?_
    refine tq_callV (as := [.int a1, .int a2]) (st := []) (d1 := 2) (x1 := 0) (x2 := x) (by decide +kernel) ln_4_146 mf_X4_collectKind rfl sh_28 rfl (by decide) np_X4_collectKind rfl (Nat.le_of_ble_eq_true rfl) (by decide) (Nat.zero_add _).symm (tq_M_mono (am_X4_collectKind h) ?_)
    refine tq_wv_e (fun z101 h => ?_)
    refine tq_g_iinc (i := 2) (fun v102 => [.ref 28, .int a1, .int v102]) (by decide +kernel) rfl (1 : Int32) kc_1 (fun _ => rfl) (fun v102 ev102 => ?_)
    replace h := h v102 ev102
    refine tq_s_goto (off := -20) (tgt := 27) (by decide +kernel) (by decide +kernel) ?_
    exact hB27 _ _ h
theorem ac_X4_collect_27 {K : Nat × (Nat → Int32)} {x : Nat} {Q : tq_O → tq_S → Prop} {B7 : Int32 → tq_S → Prop} {a1 : Int32} {a2 : Int32} {z : tq_S} (hB7 : ∀ (b1 : Int32) (z : tq_S), B7 b1 z → tq_T K 3 x mm_X4_collect 7 [.ref 28, .int b1, .null] [] z Q) (h : wc_X4_collect_27 B7 Q a1 a2 z) : tq_T K 3 x mm_X4_collect 27 [.ref 28, .int a1, .int a2] [] z Q :=
  tq_lp_T (σ := Int32 × tq_S) (s := (a2, z)) (G := fun s => tq_T K 3 x mm_X4_collect 27 [.ref 28, .int a1, .int s.1] [] s.2 Q) (fun B hB s h => ab_X4_collect_27 hB7 (fun b2 z h => hB (b2, z) h) h) h
def wc_X4_collect_56 (Q : tq_O → tq_S → Prop)  (z : tq_S) : Prop := vp_in (tq_fi z 1804) 25 ∧ ∀ z101 : tq_S, z101 = tq_sai z 30 (upd (tq_ai z 30) (Int32.toNatClampNeg (tq_fi z 1804)) (tq_fi z 1805)) → Q (.inl none) z101
theorem ac_X4_collect_56 {K : Nat × (Nat → Int32)} {x : Nat} {Q : tq_O → tq_S → Prop}  {z : tq_S} (h : wc_X4_collect_56 Q z) : tq_T K 3 x mm_X4_collect 56 [.ref 28, .null, .null] [] z Q := by
  unfold wc_X4_collect_56 at h
  refine tq_s_aload_n (kk := 0) (by decide +kernel) rfl ?_
  refine fg_4_23_28 rfl (by decide +kernel) ?_
  refine tq_s_aload_n (kk := 0) (by decide +kernel) rfl ?_
  refine fg_4_84_28 rfl (by decide +kernel) ?_
  refine tq_s_aload_n (kk := 0) (by decide +kernel) rfl ?_
  refine fg_4_140_28 rfl (by decide +kernel) ?_
  refine tq_g_iast (by decide +kernel) sh_30 h.1 (fun z101 ez101 => ?_)
  replace h := h.2 z101 ez101
  exact tq_ret_v (st := []) (by decide +kernel) rfl h
def wb_X4_collect_7 (B7 : Int32 → tq_S → Prop) (Q : tq_O → tq_S → Prop) (a1 : Int32) (z : tq_S) : Prop := (((tq_fi z 1804) ≤ a1 → wc_X4_collect_56 Q z) ∧ (¬ (tq_fi z 1804) ≤ a1 → vp_in a1 25 ∧ ∀ z101 : tq_S, z101 = tq_sai z 30 (upd (tq_ai z 30) (Int32.toNatClampNeg a1) (tq_fi z 1805)) → wc_X4_collect_27 B7 Q a1 (0 : Int32) z101))
def wc_X4_collect_7 (Q : tq_O → tq_S → Prop) (a1 : Int32) (z : tq_S) : Prop := tq_lp (σ := Int32 × tq_S) (fun B s => wb_X4_collect_7 (fun b1 z => B (b1, z)) Q s.1 s.2) (a1, z)
theorem ab_X4_collect_7 {K : Nat × (Nat → Int32)} {x : Nat} {Q : tq_O → tq_S → Prop} {B7 : Int32 → tq_S → Prop} {a1 : Int32} {z : tq_S} (hB7 : ∀ (b1 : Int32) (z : tq_S), B7 b1 z → tq_T K 3 x mm_X4_collect 7 [.ref 28, .int b1, .null] [] z Q) (h : wb_X4_collect_7 B7 Q a1 z) : tq_T K 3 x mm_X4_collect 7 [.ref 28, .int a1, .null] [] z Q := by
  unfold wb_X4_collect_7 at h
  refine tq_s_iload_n (kk := 1) (by decide +kernel) rfl ?_
  refine tq_s_aload_n (kk := 0) (by decide +kernel) rfl ?_
  refine fg_4_84_28 rfl (by decide +kernel) ?_
  refine tq_icmp_ge (off := 44) (tgt := 56) (by decide +kernel) (by decide +kernel) (fun hc => ?_) (fun hc => ?_)
  · replace h := h.1 hc
    exact tq_to (tq_lk1 (tq_ld1 (tq_lk1 tq_l0))) (ac_X4_collect_56 h)
  · replace h := h.2 hc
    refine tq_s_aload_n (kk := 0) (by decide +kernel) rfl ?_
    refine fg_4_23_28 rfl (by decide +kernel) ?_
    refine tq_s_iload_n (kk := 1) (by decide +kernel) rfl ?_
    refine tq_s_aload_n (kk := 0) (by decide +kernel) rfl ?_
    refine fg_4_140_28 rfl (by decide +kernel) ?_
    refine tq_g_iast (by decide +kernel) sh_30 h.1 (fun z101 ez101 => ?_)
    replace h := h.2 z101 ez101
    refine tq_k_ic (n := 0) (v := (0 : Int32)) (by decide +kernel) kc_0 ?_
    refine tq_s_istore_n (kk := 2) (L9 := [.ref 28, .int a1, .int (0 : Int32)]) (by decide +kernel) (by decide) rfl ?_
    exact ac_X4_collect_27 hB7 h
theorem ac_X4_collect_7 {K : Nat × (Nat → Int32)} {x : Nat} {Q : tq_O → tq_S → Prop} {a1 : Int32} {z : tq_S} (h : wc_X4_collect_7 Q a1 z) : tq_T K 3 x mm_X4_collect 7 [.ref 28, .int a1, .null] [] z Q :=
  tq_lp_T (σ := Int32 × tq_S) (s := (a1, z)) (G := fun s => tq_T K 3 x mm_X4_collect 7 [.ref 28, .int s.1, .null] [] s.2 Q) (fun B hB s h => ab_X4_collect_7 (fun b1 z h => hB (b1, z) h) h) h
def wm_X4_collect  (z : tq_S) (Q : tq_O → tq_S → Prop) : Prop := ∀ z1 : tq_S, z1 = tq_sfi z 1805 (0 : Int32) → wc_X4_collect_7 Q (0 : Int32) z1
theorem am_X4_collect {K : Nat × (Nat → Int32)} {x : Nat} {z : tq_S} {Q : tq_O → tq_S → Prop}  (h : wm_X4_collect z Q) : tq_M K 3 x mm_X4_collect [.ref 28] z Q := by
  unfold wm_X4_collect at h
  refine tq_enter (L := [.ref 28, .null, .null]) mf_X4_collect.1 rfl rfl (Nat.le_of_ble_eq_true rfl) ?_
  refine tq_s_aload_n (kk := 0) (by decide +kernel) rfl ?_
  refine tq_k_ic (n := 0) (v := (0 : Int32)) (by decide +kernel) kc_0 ?_
  refine fp_4_140_28 rfl (by decide +kernel) (fun z1 ez1 => ?_)
  replace h := h z1 ez1
  refine tq_k_ic (n := 0) (v := (0 : Int32)) (by decide +kernel) kc_0 ?_
  refine tq_s_istore_n (kk := 1) (L9 := [.ref 28, .int (0 : Int32), .null]) (by decide +kernel) (by decide) rfl ?_
  exact ac_X4_collect_7 h
def wb_J7_fill_d0a16_r7_6 (B6 : Int32 → tq_S → Prop) (Q : tq_O → tq_S → Prop) (a1 : Int64) (a3 : Int32) (a4 : Int32) (z : tq_S) : Prop := ((a4 ≤ a3 → Q (.inl none) z) ∧ (¬ a4 ≤ a3 → vp_in a3 2048 ∧ ∀ z101 : tq_S, z101 = tq_sal z 34 (vp_updL (tq_al z 34) (Int32.toNatClampNeg a3) a1) → ∀ v102 : Int32, v102 = a3 + (1 : Int32) → B6 v102 z101))
def wc_J7_fill_d0a16_r7_6 (Q : tq_O → tq_S → Prop) (a1 : Int64) (a3 : Int32) (a4 : Int32) (z : tq_S) : Prop := tq_lp (σ := Int32 × tq_S) (fun B s => wb_J7_fill_d0a16_r7_6 (fun b3 z => B (b3, z)) Q a1 s.1 a4 s.2) (a3, z)
theorem ab_J7_fill_d0a16_r7_6 {K : Nat × (Nat → Int32)} {x : Nat} {Q : tq_O → tq_S → Prop} {B6 : Int32 → tq_S → Prop} {a1 : Int64} {a3 : Int32} {a4 : Int32} {z : tq_S} (hB6 : ∀ (b3 : Int32) (z : tq_S), B6 b3 z → tq_T K 0 x mm_J7_fill_d0a16 6 [.ref 34, .long a1, .null, .int b3, .int a4] [] z Q) (h : wb_J7_fill_d0a16_r7_6 B6 Q a1 a3 a4 z) : tq_T K 0 x mm_J7_fill_d0a16 6 [.ref 34, .long a1, .null, .int a3, .int a4] [] z Q := by
  unfold wb_J7_fill_d0a16_r7_6 at h
  refine tq_s_iload_n (kk := 3) (by decide +kernel) rfl ?_
  refine tq_s_iload (i := 4) (by decide +kernel) rfl ?_
  refine tq_icmp_ge (off := 13) (tgt := 22) (by decide +kernel) (by decide +kernel) (fun hc => ?_) (fun hc => ?_)
  · replace h := h.1 hc
    exact tq_ret_v (st := []) (by decide +kernel) rfl h
  · replace h := h.2 hc
    refine tq_s_aload_n (kk := 0) (by decide +kernel) rfl ?_
    refine tq_s_iload_n (kk := 3) (by decide +kernel) rfl ?_
    refine tq_s_lload_n (kk := 1) (by decide +kernel) rfl ?_
    refine tq_g_last (by decide +kernel) sh_34 h.1 (fun z101 ez101 => ?_)
    replace h := h.2 z101 ez101
    refine tq_g_iinc (i := 3) (fun v102 => [.ref 34, .long a1, .null, .int v102, .int a4]) (by decide +kernel) rfl (1 : Int32) kc_1 (fun _ => rfl) (fun v102 ev102 => ?_)
    replace h := h v102 ev102
    refine tq_s_goto (off := -13) (tgt := 6) (by decide +kernel) (by decide +kernel) ?_
    exact hB6 _ _ h
theorem ac_J7_fill_d0a16_r7_6 {K : Nat × (Nat → Int32)} {x : Nat} {Q : tq_O → tq_S → Prop} {a1 : Int64} {a3 : Int32} {a4 : Int32} {z : tq_S} (h : wc_J7_fill_d0a16_r7_6 Q a1 a3 a4 z) : tq_T K 0 x mm_J7_fill_d0a16 6 [.ref 34, .long a1, .null, .int a3, .int a4] [] z Q :=
  tq_lp_T (σ := Int32 × tq_S) (s := (a3, z)) (G := fun s => tq_T K 0 x mm_J7_fill_d0a16 6 [.ref 34, .long a1, .null, .int s.1, .int a4] [] s.2 Q) (fun B hB s h => ab_J7_fill_d0a16_r7_6 (fun b3 z h => hB (b3, z) h) h) h
def wm_J7_fill_d0a16_r7 (a1 : Int64) (z : tq_S) (Q : tq_O → tq_S → Prop) : Prop := ∀ v1 : Int32, v1 = (Int32.ofNat 2048) → wc_J7_fill_d0a16_r7_6 Q a1 (0 : Int32) v1 z
theorem am_J7_fill_d0a16_r7 {K : Nat × (Nat → Int32)} {x : Nat} {z : tq_S} {Q : tq_O → tq_S → Prop} {a1 : Int64} (h : wm_J7_fill_d0a16_r7 a1 z Q) : tq_M K 0 x mm_J7_fill_d0a16 [.ref 34, .long a1] z Q := by
  unfold wm_J7_fill_d0a16_r7 at h
  refine tq_enter (L := [.ref 34, .long a1, .null, .null, .null]) mf_J7_fill_d0a16.1 rfl rfl (Nat.le_of_ble_eq_true rfl) ?_
  refine tq_k_ic (n := 0) (v := (0 : Int32)) (by decide +kernel) kc_0 ?_
  refine tq_s_istore_n (kk := 3) (L9 := [.ref 34, .long a1, .null, .int (0 : Int32), .null]) (by decide +kernel) (by decide) rfl ?_
  refine tq_s_aload_n (kk := 0) (by decide +kernel) rfl ?_
  refine tq_s_alen (by decide +kernel) sh_34 (by decide) ?_
  refine tq_g_istore (i := 4) (fun v1 => [.ref 34, .long a1, .null, .int (0 : Int32), .int v1]) (by decide +kernel) (by decide) (fun _ => rfl) (fun v1 ev1 => ?_)
  replace h := h v1 ev1
  exact ac_J7_fill_d0a16_r7_6 h
def wm_J9_min_7cf53 (a0 : Int32) (a1 : Int32) (z : tq_S) (Q : tq_O → tq_S → Prop) : Prop := ((a1 < a0 → Q (.inl (some (.int a1))) z) ∧ (¬ a1 < a0 → Q (.inl (some (.int a0))) z))
theorem am_J9_min_7cf53 {K : Nat × (Nat → Int32)} {x : Nat} {z : tq_S} {Q : tq_O → tq_S → Prop} {a0 : Int32} {a1 : Int32} (h : wm_J9_min_7cf53 a0 a1 z Q) : tq_M K 0 x mm_J9_min_7cf53 [.int a0, .int a1] z Q := by
  unfold wm_J9_min_7cf53 at h
  refine tq_enter (L := [.int a0, .int a1]) mf_J9_min_7cf53.1 rfl rfl (Nat.le_of_ble_eq_true rfl) ?_
  refine tq_s_iload_n (kk := 0) (by decide +kernel) rfl ?_
  refine tq_s_iload_n (kk := 1) (by decide +kernel) rfl ?_
  refine tq_icmp_gt (off := 7) (tgt := 9) (by decide +kernel) (by decide +kernel) (fun hc => ?_) (fun hc => ?_)
  · replace h := h.1 hc
    refine tq_s_iload_n (kk := 1) (by decide +kernel) rfl ?_
    exact tq_ret_i (st := []) (by decide +kernel) rfl h
  · replace h := h.2 hc
    refine tq_s_iload_n (kk := 0) (by decide +kernel) rfl ?_
    refine tq_s_goto (off := 4) (tgt := 10) (by decide +kernel) (by decide +kernel) ?_
    exact tq_ret_i (st := []) (by decide +kernel) rfl h
def wm_J9_max_f86c9 (a0 : Int64) (a2 : Int64) (z : tq_S) (Q : tq_O → tq_S → Prop) : Prop := ((a0 < a2 → Q (.inl (some (.long a2))) z) ∧ (¬ a0 < a2 → Q (.inl (some (.long a0))) z))
theorem am_J9_max_f86c9 {K : Nat × (Nat → Int32)} {x : Nat} {z : tq_S} {Q : tq_O → tq_S → Prop} {a0 : Int64} {a2 : Int64} (h : wm_J9_max_f86c9 a0 a2 z Q) : tq_M K 0 x mm_J9_max_f86c9 [.long a0, .long a2] z Q := by
  unfold wm_J9_max_f86c9 at h
  refine tq_enter (L := [.long a0, .null, .long a2, .null]) mf_J9_max_f86c9.1 rfl rfl (Nat.le_of_ble_eq_true rfl) ?_
  refine tq_s_lload_n (kk := 0) (by decide +kernel) rfl ?_
  refine tq_s_lload_n (kk := 2) (by decide +kernel) rfl ?_
  refine tq_lcmp_lt (off := 7) (tgt := 10) (by decide +kernel) (by decide +kernel) (by decide +kernel) (fun hc => ?_) (fun hc => ?_)
  · replace h := h.1 hc
    refine tq_s_lload_n (kk := 2) (by decide +kernel) rfl ?_
    exact tq_ret_l (st := []) (by decide +kernel) rfl h
  · replace h := h.2 hc
    refine tq_s_lload_n (kk := 0) (by decide +kernel) rfl ?_
    refine tq_s_goto (off := 4) (tgt := 11) (by decide +kernel) (by decide +kernel) ?_
    exact tq_ret_l (st := []) (by decide +kernel) rfl h
def wb_X4_bounded_20 (B20 : Int64 → Int32 → tq_S → Prop) (Q : tq_O → tq_S → Prop) (a1 : Int64) (a3 : Int32) (a4 : Int64) (a6 : Int32) (z : tq_S) : Prop := (((tq_fi z 1477) ≤ a6 → Q (.inl (some (.long a4))) z) ∧ (¬ (tq_fi z 1477) ≤ a6 → ∀ v101 : Int32, v101 = ((32 : Int32) + ((4 : Int32) * a6)) → ∀ v102 : Int64, v102 = (((Int64.toUInt64 a1) >>> ((Int32.toInt64 v101).toUInt64 &&& Int64.toUInt64 63)).toInt64 &&& (15 : Int64)) → vp_in a6 6 ∧ wm_J9_max_7cf53 (tq_ai z 27 (Int32.toNatClampNeg a6)) (1 : Int32) z (tq_wi fun r104 z103 => (¬ r104 = 0) ∧ ∀ v105 : Int64, v105 = (Int32.toInt64 (a3 / r104)) → wm_J9_max_f86c9 (v102 - v105) (0 : Int64) z103 (tq_wl fun r107 z106 => ∀ v108 : Int64, v108 = (a4 - (r107 <<< ((Int32.toInt64 v101) &&& 63))) → ∀ v109 : Int32, v109 = a6 + (1 : Int32) → B20 v108 v109 z106))))
def wc_X4_bounded_20 (Q : tq_O → tq_S → Prop) (a1 : Int64) (a3 : Int32) (a4 : Int64) (a6 : Int32) (z : tq_S) : Prop := tq_lp (σ := Int64 × Int32 × tq_S) (fun B s => wb_X4_bounded_20 (fun b4 b6 z => B (b4, b6, z)) Q a1 a3 s.1 s.2.1 s.2.2) (a4, a6, z)
theorem ab_X4_bounded_20 {K : Nat × (Nat → Int32)} {x : Nat} {Q : tq_O → tq_S → Prop} {B20 : Int64 → Int32 → tq_S → Prop} {a1 : Int64} {a3 : Int32} {a4 : Int64} {a6 : Int32} {z : tq_S} (hB20 : ∀ (b4 : Int64) (b6 : Int32) (z : tq_S), B20 b4 b6 z → tq_T K 1 x mm_X4_bounded 20 [.ref 28, .long a1, .null, .int a3, .long b4, .null, .int b6, .null, .null, .null, .null, .null] [] z Q) (h : wb_X4_bounded_20 B20 Q a1 a3 a4 a6 z) : tq_T K 1 x mm_X4_bounded 20 [.ref 28, .long a1, .null, .int a3, .long a4, .null, .int a6, .null, .null, .null, .null, .null] [] z Q := by
  unfold wb_X4_bounded_20 at h
  refine tq_s_iload (i := 6) (by decide +kernel) rfl ?_
  refine tq_s_aload_n (kk := 0) (by decide +kernel) rfl ?_
  refine fg_4_15_28 rfl (by decide +kernel) ?_
  refine fg_4_143_23 rfl (by decide +kernel) ?_
  refine tq_icmp_ge (off := 64) (tgt := 93) (by decide +kernel) (by decide +kernel) (fun hc => ?_) (fun hc => ?_)
  · replace h := h.1 hc
    refine tq_s_lload (i := 4) (by decide +kernel) rfl ?_
    exact tq_ret_l (st := []) (by decide +kernel) rfl h
  · replace h := h.2 hc
    refine tq_k_bi (n := 32) (v := (32 : Int32)) (by decide +kernel) kb_32 ?_
    refine tq_k_ic (n := 4) (v := (4 : Int32)) (by decide +kernel) kc_4 ?_
    refine tq_s_iload (i := 6) (by decide +kernel) rfl ?_
    refine tq_s_imul (by decide +kernel) ?_
    refine tq_s_iadd (by decide +kernel) ?_
    refine tq_g_istore (i := 7) (fun v101 => [.ref 28, .long a1, .null, .int a3, .long a4, .null, .int a6, .int v101, .null, .null, .null, .null]) (by decide +kernel) (by decide) (fun _ => rfl) (fun v101 ev101 => ?_)
    replace h := h v101 ev101
    refine tq_s_lload_n (kk := 1) (by decide +kernel) rfl ?_
    refine tq_s_iload (i := 7) (by decide +kernel) rfl ?_
    refine tq_s_lushr (by decide +kernel) ?_
    refine tq_s_ldc2 (i := 165) (v := (15 : Int64)) (by decide +kernel) (by decide +kernel) ?_
    refine tq_s_land (by decide +kernel) ?_
    refine tq_g_lstore (i := 8) (fun v102 => [.ref 28, .long a1, .null, .int a3, .long a4, .null, .int a6, .int v101, .long v102, .null, .null, .null]) (by decide +kernel) (by decide) (fun _ => rfl) (fun v102 ev102 => ?_)
    replace h := h v102 ev102
    refine tq_s_iload_n (kk := 3) (by decide +kernel) rfl ?_
    refine tq_s_aload_n (kk := 0) (by decide +kernel) rfl ?_
    refine fg_4_15_28 rfl (by decide +kernel) ?_
    refine fg_4_167_23 rfl (by decide +kernel) ?_
    refine tq_s_iload (i := 6) (by decide +kernel) rfl ?_
    refine tq_s_iald (by decide +kernel) sh_27 h.1 ?_
    replace h := h.2
    refine tq_k_ic (n := 1) (v := (1 : Int32)) (by decide +kernel) kc_1 ?_
    refine tq_callS (as := [.int (tq_ai z 27 (Int32.toNatClampNeg a6)), .int (1 : Int32)]) (st := [.int a3]) (d1 := 0) (x1 := 0) (x2 := x) (by decide +kernel) ln_4_170 mf_J9_max_7cf53 rfl (by decide) np_J9_max_7cf53 rfl (Nat.le_of_ble_eq_true rfl) (by decide) (Nat.zero_add _).symm (tq_M_mono (am_J9_max_7cf53 h) ?_)
    refine tq_wi_e (fun r104 z103 h => ?_)
    refine tq_s_idiv (by decide +kernel) h.1 ?_
    replace h := h.2
    refine tq_s_i2l (by decide +kernel) ?_
    refine tq_g_lstore (i := 10) (fun v105 => [.ref 28, .long a1, .null, .int a3, .long a4, .null, .int a6, .int v101, .long v102, .null, .long v105, .null]) (by decide +kernel) (by decide) (fun _ => rfl) (fun v105 ev105 => ?_)
    replace h := h v105 ev105
    refine tq_s_lload (i := 4) (by decide +kernel) rfl ?_
    refine tq_s_lload (i := 8) (by decide +kernel) rfl ?_
    refine tq_s_lload (i := 10) (by decide +kernel) rfl ?_
    refine tq_s_lsub (by decide +kernel) ?_
    refine tq_k_lc (n := 0) (v := (0 : Int64)) (by decide +kernel) (by decide +kernel) ?_
    refine tq_callS (as := [.long (v102 - v105), .long (0 : Int64)]) (st := [.long a4]) (d1 := 0) (x1 := 0) (x2 := x) (by decide +kernel) ln_4_173 mf_J9_max_f86c9 rfl (by decide) np_J9_max_f86c9 rfl (Nat.le_of_ble_eq_true rfl) (by decide) (Nat.zero_add _).symm (tq_M_mono (am_J9_max_f86c9 h) ?_)
    refine tq_wl_e (fun r107 z106 h => ?_)
    refine tq_s_iload (i := 7) (by decide +kernel) rfl ?_
    refine tq_s_lshl (by decide +kernel) ?_
    refine tq_s_lsub (by decide +kernel) ?_
    refine tq_g_lstore (i := 4) (fun v108 => [.ref 28, .long a1, .null, .int a3, .long v108, .null, .int a6, .int v101, .long v102, .null, .long v105, .null]) (by decide +kernel) (by decide) (fun _ => rfl) (fun v108 ev108 => ?_)
    replace h := h v108 ev108
    refine tq_g_iinc (i := 6) (fun v109 => [.ref 28, .long a1, .null, .int a3, .long v108, .null, .int v109, .int v101, .long v102, .null, .long v105, .null]) (by decide +kernel) rfl (1 : Int32) kc_1 (fun _ => rfl) (fun v109 ev109 => ?_)
    replace h := h v109 ev109
    refine tq_s_goto (off := -70) (tgt := 20) (by decide +kernel) (by decide +kernel) ?_
    exact tq_to (tq_lk1 (tq_lk1 (tq_lk1 (tq_lk1 (tq_lk1 (tq_lk1 (tq_lk1 (tq_ld1 (tq_ld1 (tq_lk1 (tq_ld1 (tq_lk1 tq_l0)))))))))))) (hB20 _ _ _ h)
theorem ac_X4_bounded_20 {K : Nat × (Nat → Int32)} {x : Nat} {Q : tq_O → tq_S → Prop} {a1 : Int64} {a3 : Int32} {a4 : Int64} {a6 : Int32} {z : tq_S} (h : wc_X4_bounded_20 Q a1 a3 a4 a6 z) : tq_T K 1 x mm_X4_bounded 20 [.ref 28, .long a1, .null, .int a3, .long a4, .null, .int a6, .null, .null, .null, .null, .null] [] z Q :=
  tq_lp_T (σ := Int64 × Int32 × tq_S) (s := (a4, a6, z)) (G := fun s => tq_T K 1 x mm_X4_bounded 20 [.ref 28, .long a1, .null, .int a3, .long s.1, .null, .int s.2.1, .null, .null, .null, .null, .null] [] s.2.2 Q) (fun B hB s h => ab_X4_bounded_20 (fun b4 b6 z h => hB (b4, b6, z) h) h) h
def wm_X4_bounded (a1 : Int64) (z : tq_S) (Q : tq_O → tq_S → Prop) : Prop := wm_J13_bitCount_95d88 (a1 &&& (16777215 : Int64)) z (tq_wi fun r2 z1 => ∀ v3 : Int32, v3 = ((tq_fi z 1804) - r2) → wc_X4_bounded_20 Q a1 v3 a1 (0 : Int32) z1)
theorem am_X4_bounded {K : Nat × (Nat → Int32)} {x : Nat} {z : tq_S} {Q : tq_O → tq_S → Prop} {a1 : Int64} (h : wm_X4_bounded a1 z Q) : tq_M K 1 x mm_X4_bounded [.ref 28, .long a1] z Q := by
  unfold wm_X4_bounded at h
  refine tq_enter (L := [.ref 28, .long a1, .null, .null, .null, .null, .null, .null, .null, .null, .null, .null]) mf_X4_bounded.1 rfl rfl (Nat.le_of_ble_eq_true rfl) ?_
  refine tq_s_aload_n (kk := 0) (by decide +kernel) rfl ?_
  refine fg_4_84_28 rfl (by decide +kernel) ?_
  refine tq_s_lload_n (kk := 1) (by decide +kernel) rfl ?_
  refine tq_s_ldc2 (i := 157) (v := (16777215 : Int64)) (by decide +kernel) (by decide +kernel) ?_
  refine tq_s_land (by decide +kernel) ?_
  refine tq_callS (as := [.long (a1 &&& (16777215 : Int64))]) (st := [.int (tq_fi z 1804)]) (d1 := 0) (x1 := 0) (x2 := x) (by decide +kernel) ln_4_159 mf_J13_bitCount_95d88 rfl (by decide) np_J13_bitCount_95d88 rfl (Nat.le_of_ble_eq_true rfl) (by decide) (Nat.zero_add _).symm (tq_M_mono (am_J13_bitCount_95d88 h) ?_)
  refine tq_wi_e (fun r2 z1 h => ?_)
  refine tq_s_isub (by decide +kernel) ?_
  refine tq_g_istore_n (kk := 3) (fun v3 => [.ref 28, .long a1, .null, .int v3, .null, .null, .null, .null, .null, .null, .null, .null]) (by decide +kernel) (by decide) (fun _ => rfl) (fun v3 ev3 => ?_)
  replace h := h v3 ev3
  refine tq_s_lload_n (kk := 1) (by decide +kernel) rfl ?_
  refine tq_s_lstore (i := 4) (L9 := [.ref 28, .long a1, .null, .int v3, .long a1, .null, .null, .null, .null, .null, .null, .null]) (by decide +kernel) (by decide) rfl ?_
  refine tq_k_ic (n := 0) (v := (0 : Int32)) (by decide +kernel) kc_0 ?_
  refine tq_s_istore (i := 6) (L9 := [.ref 28, .long a1, .null, .int v3, .long a1, .null, .int (0 : Int32), .null, .null, .null, .null, .null]) (by decide +kernel) (by decide) rfl ?_
  exact ac_X4_bounded_20 h
def wc_X4_beginning_41 (Q : tq_O → tq_S → Prop) (a1 : Int64) (z : tq_S) : Prop := wm_X4_bounded a1 z (tq_wl fun r102 z101 => Q (.inl (some (.long r102))) z101)
theorem ac_X4_beginning_41 {K : Nat × (Nat → Int32)} {x : Nat} {Q : tq_O → tq_S → Prop} {a1 : Int64} {z : tq_S} (h : wc_X4_beginning_41 Q a1 z) : tq_T K 2 x mm_X4_beginning 41 [.ref 28, .long a1, .null, .null] [] z Q := by
  unfold wc_X4_beginning_41 at h
  refine tq_s_aload_n (kk := 0) (by decide +kernel) rfl ?_
  refine tq_s_lload_n (kk := 1) (by decide +kernel) rfl ?_
  refine tq_callV (as := [.long a1]) (st := []) (d1 := 1) (x1 := 0) (x2 := x) (by decide +kernel) ln_4_153 mf_X4_bounded rfl sh_28 rfl (by decide) np_X4_bounded rfl (Nat.le_of_ble_eq_true rfl) (by decide) (Nat.zero_add _).symm (tq_M_mono (am_X4_bounded h) ?_)
  refine tq_wl_e (fun r102 z101 h => ?_)
  exact tq_ret_l (st := []) (by decide +kernel) rfl h
def wb_X4_beginning_4 (B4 : Int64 → Int32 → tq_S → Prop) (Q : tq_O → tq_S → Prop) (a1 : Int64) (a3 : Int32) (z : tq_S) : Prop := (((tq_fi z 1477) ≤ a3 → wc_X4_beginning_41 Q a1 z) ∧ (¬ (tq_fi z 1477) ≤ a3 → vp_in a3 6 ∧ ∀ v101 : Int64, v101 = (a1 ||| ((Int32.toInt64 (tq_ai z 26 (Int32.toNatClampNeg a3))) <<< ((Int32.toInt64 ((32 : Int32) + ((4 : Int32) * a3))) &&& 63))) → ∀ v102 : Int32, v102 = a3 + (1 : Int32) → B4 v101 v102 z))
def wc_X4_beginning_4 (Q : tq_O → tq_S → Prop) (a1 : Int64) (a3 : Int32) (z : tq_S) : Prop := tq_lp (σ := Int64 × Int32 × tq_S) (fun B s => wb_X4_beginning_4 (fun b1 b3 z => B (b1, b3, z)) Q s.1 s.2.1 s.2.2) (a1, a3, z)
theorem ab_X4_beginning_4 {K : Nat × (Nat → Int32)} {x : Nat} {Q : tq_O → tq_S → Prop} {B4 : Int64 → Int32 → tq_S → Prop} {a1 : Int64} {a3 : Int32} {z : tq_S} (hB4 : ∀ (b1 : Int64) (b3 : Int32) (z : tq_S), B4 b1 b3 z → tq_T K 2 x mm_X4_beginning 4 [.ref 28, .long b1, .null, .int b3] [] z Q) (h : wb_X4_beginning_4 B4 Q a1 a3 z) : tq_T K 2 x mm_X4_beginning 4 [.ref 28, .long a1, .null, .int a3] [] z Q := by
  unfold wb_X4_beginning_4 at h
  refine tq_s_iload_n (kk := 3) (by decide +kernel) rfl ?_
  refine tq_s_aload_n (kk := 0) (by decide +kernel) rfl ?_
  refine fg_4_15_28 rfl (by decide +kernel) ?_
  refine fg_4_143_23 rfl (by decide +kernel) ?_
  refine tq_icmp_ge (off := 29) (tgt := 41) (by decide +kernel) (by decide +kernel) (fun hc => ?_) (fun hc => ?_)
  · replace h := h.1 hc
    exact tq_to (tq_lk1 (tq_lk1 (tq_lk1 (tq_ld1 tq_l0)))) (ac_X4_beginning_41 h)
  · replace h := h.2 hc
    refine tq_s_lload_n (kk := 1) (by decide +kernel) rfl ?_
    refine tq_s_aload_n (kk := 0) (by decide +kernel) rfl ?_
    refine fg_4_15_28 rfl (by decide +kernel) ?_
    refine fg_4_150_23 rfl (by decide +kernel) ?_
    refine tq_s_iload_n (kk := 3) (by decide +kernel) rfl ?_
    refine tq_s_iald (by decide +kernel) sh_26 h.1 ?_
    replace h := h.2
    refine tq_s_i2l (by decide +kernel) ?_
    refine tq_k_bi (n := 32) (v := (32 : Int32)) (by decide +kernel) kb_32 ?_
    refine tq_k_ic (n := 4) (v := (4 : Int32)) (by decide +kernel) kc_4 ?_
    refine tq_s_iload_n (kk := 3) (by decide +kernel) rfl ?_
    refine tq_s_imul (by decide +kernel) ?_
    refine tq_s_iadd (by decide +kernel) ?_
    refine tq_s_lshl (by decide +kernel) ?_
    refine tq_s_lor (by decide +kernel) ?_
    refine tq_g_lstore_n (kk := 1) (fun v101 => [.ref 28, .long v101, .null, .int a3]) (by decide +kernel) (by decide) (fun _ => rfl) (fun v101 ev101 => ?_)
    replace h := h v101 ev101
    refine tq_g_iinc (i := 3) (fun v102 => [.ref 28, .long v101, .null, .int v102]) (by decide +kernel) rfl (1 : Int32) kc_1 (fun _ => rfl) (fun v102 ev102 => ?_)
    replace h := h v102 ev102
    refine tq_s_goto (off := -34) (tgt := 4) (by decide +kernel) (by decide +kernel) ?_
    exact hB4 _ _ _ h
theorem ac_X4_beginning_4 {K : Nat × (Nat → Int32)} {x : Nat} {Q : tq_O → tq_S → Prop} {a1 : Int64} {a3 : Int32} {z : tq_S} (h : wc_X4_beginning_4 Q a1 a3 z) : tq_T K 2 x mm_X4_beginning 4 [.ref 28, .long a1, .null, .int a3] [] z Q :=
  tq_lp_T (σ := Int64 × Int32 × tq_S) (s := (a1, a3, z)) (G := fun s => tq_T K 2 x mm_X4_beginning 4 [.ref 28, .long s.1, .null, .int s.2.1] [] s.2.2 Q) (fun B hB s h => ab_X4_beginning_4 (fun b1 b3 z h => hB (b1, b3, z) h) h) h
def wm_X4_beginning  (z : tq_S) (Q : tq_O → tq_S → Prop) : Prop := wc_X4_beginning_4 Q (0 : Int64) (0 : Int32) z
theorem am_X4_beginning {K : Nat × (Nat → Int32)} {x : Nat} {z : tq_S} {Q : tq_O → tq_S → Prop}  (h : wm_X4_beginning z Q) : tq_M K 2 x mm_X4_beginning [.ref 28] z Q := by
  unfold wm_X4_beginning at h
  refine tq_enter (L := [.ref 28, .null, .null, .null]) mf_X4_beginning.1 rfl rfl (Nat.le_of_ble_eq_true rfl) ?_
  refine tq_k_lc (n := 0) (v := (0 : Int64)) (by decide +kernel) (by decide +kernel) ?_
  refine tq_s_lstore_n (kk := 1) (L9 := [.ref 28, .long (0 : Int64), .null, .null]) (by decide +kernel) (by decide) rfl ?_
  refine tq_k_ic (n := 0) (v := (0 : Int32)) (by decide +kernel) kc_0 ?_
  refine tq_s_istore_n (kk := 3) (L9 := [.ref 28, .long (0 : Int64), .null, .int (0 : Int32)]) (by decide +kernel) (by decide) rfl ?_
  exact ac_X4_beginning_4 h
def wc_X4_imageOf_46 (B6 : Int64 → Int32 → tq_S → Prop) (Q : tq_O → tq_S → Prop) (a1 : Int64) (a3 : Int32) (a4 : Int32) (a5 : Int64) (a7 : Int32) (z : tq_S) : Prop := ∀ v101 : Int32, v101 = a7 + (1 : Int32) → B6 a5 v101 z
theorem ac_X4_imageOf_46 {K : Nat × (Nat → Int32)} {x : Nat} {Q : tq_O → tq_S → Prop} {B6 : Int64 → Int32 → tq_S → Prop} {a1 : Int64} {a3 : Int32} {a4 : Int32} {a5 : Int64} {a7 : Int32} {z : tq_S} (hB6 : ∀ (b5 : Int64) (b7 : Int32) (z : tq_S), B6 b5 b7 z → tq_T K 1 x mm_X4_imageOf 6 [.ref 28, .long a1, .null, .int a3, .int a4, .long b5, .null, .int b7, .null] [] z Q) (h : wc_X4_imageOf_46 B6 Q a1 a3 a4 a5 a7 z) : tq_T K 1 x mm_X4_imageOf 46 [.ref 28, .long a1, .null, .int a3, .int a4, .long a5, .null, .int a7, .null] [] z Q := by
  unfold wc_X4_imageOf_46 at h
  refine tq_g_iinc (i := 7) (fun v101 => [.ref 28, .long a1, .null, .int a3, .int a4, .long a5, .null, .int v101, .null]) (by decide +kernel) rfl (1 : Int32) kc_1 (fun _ => rfl) (fun v101 ev101 => ?_)
  replace h := h v101 ev101
  refine tq_s_goto (off := -43) (tgt := 6) (by decide +kernel) (by decide +kernel) ?_
  exact hB6 _ _ _ h
def wc_X4_imageOf_129 (Q : tq_O → tq_S → Prop) (a8 : Int32) (z : tq_S) : Prop := vp_in a8 1152 ∧ Q (.inl (some (.long (tq_al z 29 (Int32.toNatClampNeg a8))))) z
theorem ac_X4_imageOf_129 {K : Nat × (Nat → Int32)} {x : Nat} {Q : tq_O → tq_S → Prop} {a8 : Int32} {z : tq_S} (h : wc_X4_imageOf_129 Q a8 z) : tq_T K 1 x mm_X4_imageOf 129 [.ref 28, .null, .null, .null, .null, .null, .null, .null, .int a8] [] z Q := by
  unfold wc_X4_imageOf_129 at h
  refine tq_s_aload_n (kk := 0) (by decide +kernel) rfl ?_
  refine fg_4_19_28 rfl (by decide +kernel) ?_
  refine tq_s_iload (i := 8) (by decide +kernel) rfl ?_
  refine tq_s_lald (by decide +kernel) sh_29 h.1 ?_
  replace h := h.2
  exact tq_ret_l (st := []) (by decide +kernel) rfl h
def wc_X4_imageOf_137 (B82 : Int32 → tq_S → Prop) (Q : tq_O → tq_S → Prop) (a3 : Int32) (a5 : Int64) (a7 : Int32) (a8 : Int32) (z : tq_S) : Prop := ∀ v101 : Int32, v101 = a8 + (1 : Int32) → B82 v101 z
theorem ac_X4_imageOf_137 {K : Nat × (Nat → Int32)} {x : Nat} {Q : tq_O → tq_S → Prop} {B82 : Int32 → tq_S → Prop} {a3 : Int32} {a5 : Int64} {a7 : Int32} {a8 : Int32} {z : tq_S} (hB82 : ∀ (b8 : Int32) (z : tq_S), B82 b8 z → tq_T K 1 x mm_X4_imageOf 82 [.ref 28, .null, .null, .int a3, .null, .long a5, .null, .int a7, .int b8] [] z Q) (h : wc_X4_imageOf_137 B82 Q a3 a5 a7 a8 z) : tq_T K 1 x mm_X4_imageOf 137 [.ref 28, .null, .null, .int a3, .null, .long a5, .null, .int a7, .int a8] [] z Q := by
  unfold wc_X4_imageOf_137 at h
  refine tq_g_iinc (i := 8) (fun v101 => [.ref 28, .null, .null, .int a3, .null, .long a5, .null, .int a7, .int v101]) (by decide +kernel) rfl (1 : Int32) kc_1 (fun _ => rfl) (fun v101 ev101 => ?_)
  replace h := h v101 ev101
  refine tq_s_goto (off := -58) (tgt := 82) (by decide +kernel) (by decide +kernel) ?_
  exact hB82 _ _ h
def wb_X4_imageOf_82 (B82 : Int32 → tq_S → Prop) (Q : tq_O → tq_S → Prop) (a3 : Int32) (a5 : Int64) (a7 : Int32) (a8 : Int32) (z : tq_S) : Prop := vp_in (a7 + (1 : Int32)) 25 ∧ (((tq_ai z 30 (Int32.toNatClampNeg (a7 + (1 : Int32)))) ≤ a8 → Q (.inl (some (.long (-1 : Int64)))) z) ∧ (¬ (tq_ai z 30 (Int32.toNatClampNeg (a7 + (1 : Int32)))) ≤ a8 → vp_in a8 1152 ∧ ((¬ ((tq_al z 29 (Int32.toNatClampNeg a8)) &&& (16777215 : Int64)) = a5 → wc_X4_imageOf_137 B82 Q a3 a5 a7 a8 z) ∧ (((tq_al z 29 (Int32.toNatClampNeg a8)) &&& (16777215 : Int64)) = a5 → vp_in a8 1152 ∧ ((¬ ((Int64.toUInt64 (tq_al z 29 (Int32.toNatClampNeg a8))) >>> ((Int32.toInt64 (32 : Int32)).toUInt64 &&& Int64.toUInt64 63)).toInt64 = (Int32.toInt64 a3) → wc_X4_imageOf_137 B82 Q a3 a5 a7 a8 z) ∧ (((Int64.toUInt64 (tq_al z 29 (Int32.toNatClampNeg a8))) >>> ((Int32.toInt64 (32 : Int32)).toUInt64 &&& Int64.toUInt64 63)).toInt64 = (Int32.toInt64 a3) → wc_X4_imageOf_129 Q a8 z))))))
def wc_X4_imageOf_82 (Q : tq_O → tq_S → Prop) (a3 : Int32) (a5 : Int64) (a7 : Int32) (a8 : Int32) (z : tq_S) : Prop := tq_lp (σ := Int32 × tq_S) (fun B s => wb_X4_imageOf_82 (fun b8 z => B (b8, z)) Q a3 a5 a7 s.1 s.2) (a8, z)
theorem ab_X4_imageOf_82 {K : Nat × (Nat → Int32)} {x : Nat} {Q : tq_O → tq_S → Prop} {B82 : Int32 → tq_S → Prop} {a3 : Int32} {a5 : Int64} {a7 : Int32} {a8 : Int32} {z : tq_S} (hB82 : ∀ (b8 : Int32) (z : tq_S), B82 b8 z → tq_T K 1 x mm_X4_imageOf 82 [.ref 28, .null, .null, .int a3, .null, .long a5, .null, .int a7, .int b8] [] z Q) (h : wb_X4_imageOf_82 B82 Q a3 a5 a7 a8 z) : tq_T K 1 x mm_X4_imageOf 82 [.ref 28, .null, .null, .int a3, .null, .long a5, .null, .int a7, .int a8] [] z Q := by
  unfold wb_X4_imageOf_82 at h
  refine tq_s_iload (i := 8) (by decide +kernel) rfl ?_
  refine tq_s_aload_n (kk := 0) (by decide +kernel) rfl ?_
  refine fg_4_23_28 rfl (by decide +kernel) ?_
  refine tq_s_iload (i := 7) (by decide +kernel) rfl ?_
  refine tq_k_ic (n := 1) (v := (1 : Int32)) (by decide +kernel) kc_1 ?_
  refine tq_s_iadd (by decide +kernel) ?_
  refine tq_s_iald (by decide +kernel) sh_30 h.1 ?_
  replace h := h.2
  refine tq_icmp_ge (off := 50) (tgt := 143) (by decide +kernel) (by decide +kernel) (fun hc => ?_) (fun hc => ?_)
  · replace h := h.1 hc
    refine tq_s_ldc2 (i := 78) (v := (-1 : Int64)) (by decide +kernel) (by decide +kernel) ?_
    exact tq_ret_l (st := []) (by decide +kernel) rfl h
  · replace h := h.2 hc
    refine tq_s_aload_n (kk := 0) (by decide +kernel) rfl ?_
    refine fg_4_19_28 rfl (by decide +kernel) ?_
    refine tq_s_iload (i := 8) (by decide +kernel) rfl ?_
    refine tq_s_lald (by decide +kernel) sh_29 h.1 ?_
    replace h := h.2
    refine tq_s_ldc2 (i := 157) (v := (16777215 : Int64)) (by decide +kernel) (by decide +kernel) ?_
    refine tq_s_land (by decide +kernel) ?_
    refine tq_s_lload (i := 5) (by decide +kernel) rfl ?_
    refine tq_lcmp_ne (off := 27) (tgt := 137) (by decide +kernel) (by decide +kernel) (by decide +kernel) (fun hc => ?_) (fun hc => ?_)
    · replace h := h.1 hc
      exact ac_X4_imageOf_137 hB82 h
    · replace h := h.2 hc
      refine tq_s_aload_n (kk := 0) (by decide +kernel) rfl ?_
      refine fg_4_19_28 rfl (by decide +kernel) ?_
      refine tq_s_iload (i := 8) (by decide +kernel) rfl ?_
      refine tq_s_lald (by decide +kernel) sh_29 h.1 ?_
      replace h := h.2
      refine tq_k_bi (n := 32) (v := (32 : Int32)) (by decide +kernel) kb_32 ?_
      refine tq_s_lushr (by decide +kernel) ?_
      refine tq_s_iload_n (kk := 3) (by decide +kernel) rfl ?_
      refine tq_s_i2l (by decide +kernel) ?_
      refine tq_lcmp_ne (off := 11) (tgt := 137) (by decide +kernel) (by decide +kernel) (by decide +kernel) (fun hc => ?_) (fun hc => ?_)
      · replace h := h.1 hc
        exact ac_X4_imageOf_137 hB82 h
      · replace h := h.2 hc
        exact tq_to (tq_lk1 (tq_lk1 (tq_lk1 (tq_ld1 (tq_lk1 (tq_ld1 (tq_lk1 (tq_ld1 (tq_lk1 tq_l0))))))))) (ac_X4_imageOf_129 h)
theorem ac_X4_imageOf_82 {K : Nat × (Nat → Int32)} {x : Nat} {Q : tq_O → tq_S → Prop} {a3 : Int32} {a5 : Int64} {a7 : Int32} {a8 : Int32} {z : tq_S} (h : wc_X4_imageOf_82 Q a3 a5 a7 a8 z) : tq_T K 1 x mm_X4_imageOf 82 [.ref 28, .null, .null, .int a3, .null, .long a5, .null, .int a7, .int a8] [] z Q :=
  tq_lp_T (σ := Int32 × tq_S) (s := (a8, z)) (G := fun s => tq_T K 1 x mm_X4_imageOf 82 [.ref 28, .null, .null, .int a3, .null, .long a5, .null, .int a7, .int s.1] [] s.2 Q) (fun B hB s h => ab_X4_imageOf_82 (fun b8 z h => hB (b8, z) h) h) h
def wc_X4_imageOf_52 (Q : tq_O → tq_S → Prop) (a3 : Int32) (a5 : Int64) (z : tq_S) : Prop := wm_J13_bitCount_95d88 ((a5 ^^^ (-1 : Int64)) &&& (a5 - (1 : Int64))) z (tq_wi fun r102 z101 => wm_J9_min_7cf53 r102 (23 : Int32) z101 (tq_wi fun r104 z103 => vp_in r104 25 ∧ ∀ v105 : Int32, v105 = (tq_ai z103 30 (Int32.toNatClampNeg r104)) → wc_X4_imageOf_82 Q a3 a5 r104 v105 z103))
theorem ac_X4_imageOf_52 {K : Nat × (Nat → Int32)} {x : Nat} {Q : tq_O → tq_S → Prop} {a3 : Int32} {a5 : Int64} {z : tq_S} (h : wc_X4_imageOf_52 Q a3 a5 z) : tq_T K 1 x mm_X4_imageOf 52 [.ref 28, .null, .null, .int a3, .null, .long a5, .null, .null, .null] [] z Q := by
  unfold wc_X4_imageOf_52 at h
  refine tq_s_lload (i := 5) (by decide +kernel) rfl ?_
  refine tq_s_ldc2 (i := 78) (v := (-1 : Int64)) (by decide +kernel) (by decide +kernel) ?_
  refine tq_s_lxor (by decide +kernel) ?_
  refine tq_s_lload (i := 5) (by decide +kernel) rfl ?_
  refine tq_k_lc (n := 1) (v := (1 : Int64)) (by decide +kernel) (by decide +kernel) ?_
  refine tq_s_lsub (by decide +kernel) ?_
  refine tq_s_land (by decide +kernel) ?_
  refine tq_callS (as := [.long ((a5 ^^^ (-1 : Int64)) &&& (a5 - (1 : Int64)))]) (st := []) (d1 := 0) (x1 := 0) (x2 := x) (by decide +kernel) ln_4_159 mf_J13_bitCount_95d88 rfl (by decide) np_J13_bitCount_95d88 rfl (Nat.le_of_ble_eq_true rfl) (by decide) (Nat.zero_add _).symm (tq_M_mono (am_J13_bitCount_95d88 h) ?_)
  refine tq_wi_e (fun r102 z101 h => ?_)
  refine tq_k_bi (n := 23) (v := (23 : Int32)) (by decide +kernel) kb_23 ?_
  refine tq_callS (as := [.int r102, .int (23 : Int32)]) (st := []) (d1 := 0) (x1 := 0) (x2 := x) (by decide +kernel) ln_4_90 mf_J9_min_7cf53 rfl (by decide) np_J9_min_7cf53 rfl (Nat.le_of_ble_eq_true rfl) (by decide) (Nat.zero_add _).symm (tq_M_mono (am_J9_min_7cf53 h) ?_)
  refine tq_wi_e (fun r104 z103 h => ?_)
  refine tq_s_istore (i := 7) (L9 := [.ref 28, .null, .null, .int a3, .null, .long a5, .null, .int r104, .null]) (by decide +kernel) (by decide) rfl ?_
  refine tq_s_aload_n (kk := 0) (by decide +kernel) rfl ?_
  refine fg_4_23_28 rfl (by decide +kernel) ?_
  refine tq_s_iload (i := 7) (by decide +kernel) rfl ?_
  refine tq_s_iald (by decide +kernel) sh_30 h.1 ?_
  replace h := h.2
  refine tq_g_istore (i := 8) (fun v105 => [.ref 28, .null, .null, .int a3, .null, .long a5, .null, .int r104, .int v105]) (by decide +kernel) (by decide) (fun _ => rfl) (fun v105 ev105 => ?_)
  replace h := h v105 ev105
  exact ac_X4_imageOf_82 h
def wb_X4_imageOf_6 (B6 : Int64 → Int32 → tq_S → Prop) (Q : tq_O → tq_S → Prop) (a1 : Int64) (a3 : Int32) (a4 : Int32) (a5 : Int64) (a7 : Int32) (z : tq_S) : Prop := (((tq_fi z 1804) ≤ a7 → wc_X4_imageOf_52 Q a3 a5 z) ∧ (¬ (tq_fi z 1804) ≤ a7 → (((((Int64.toUInt64 a1) >>> ((Int32.toInt64 a7).toUInt64 &&& Int64.toUInt64 63)).toInt64 &&& (1 : Int64)) = (0 : Int64) → wc_X4_imageOf_46 B6 Q a1 a3 a4 a5 a7 z) ∧ (¬ (((Int64.toUInt64 a1) >>> ((Int32.toInt64 a7).toUInt64 &&& Int64.toUInt64 63)).toInt64 &&& (1 : Int64)) = (0 : Int64) → vp_in ((a4 * (24 : Int32)) + a7) 192 ∧ ∀ v101 : Int64, v101 = (a5 ||| ((1 : Int64) <<< ((Int32.toInt64 (tq_ai z 33 (Int32.toNatClampNeg ((a4 * (24 : Int32)) + a7)))) &&& 63))) → wc_X4_imageOf_46 B6 Q a1 a3 a4 v101 a7 z))))
def wc_X4_imageOf_6 (Q : tq_O → tq_S → Prop) (a1 : Int64) (a3 : Int32) (a4 : Int32) (a5 : Int64) (a7 : Int32) (z : tq_S) : Prop := tq_lp (σ := Int64 × Int32 × tq_S) (fun B s => wb_X4_imageOf_6 (fun b5 b7 z => B (b5, b7, z)) Q a1 a3 a4 s.1 s.2.1 s.2.2) (a5, a7, z)
theorem ab_X4_imageOf_6 {K : Nat × (Nat → Int32)} {x : Nat} {Q : tq_O → tq_S → Prop} {B6 : Int64 → Int32 → tq_S → Prop} {a1 : Int64} {a3 : Int32} {a4 : Int32} {a5 : Int64} {a7 : Int32} {z : tq_S} (hB6 : ∀ (b5 : Int64) (b7 : Int32) (z : tq_S), B6 b5 b7 z → tq_T K 1 x mm_X4_imageOf 6 [.ref 28, .long a1, .null, .int a3, .int a4, .long b5, .null, .int b7, .null] [] z Q) (h : wb_X4_imageOf_6 B6 Q a1 a3 a4 a5 a7 z) : tq_T K 1 x mm_X4_imageOf 6 [.ref 28, .long a1, .null, .int a3, .int a4, .long a5, .null, .int a7, .null] [] z Q := by
  unfold wb_X4_imageOf_6 at h
  refine tq_s_iload (i := 7) (by decide +kernel) rfl ?_
  refine tq_s_aload_n (kk := 0) (by decide +kernel) rfl ?_
  refine fg_4_84_28 rfl (by decide +kernel) ?_
  refine tq_icmp_ge (off := 40) (tgt := 52) (by decide +kernel) (by decide +kernel) (fun hc => ?_) (fun hc => ?_)
  · replace h := h.1 hc
    exact tq_to (tq_lk1 (tq_ld1 (tq_lk1 (tq_lk1 (tq_ld1 (tq_lk1 (tq_lk1 (tq_ld1 (tq_lk1 tq_l0))))))))) (ac_X4_imageOf_52 h)
  · replace h := h.2 hc
    refine tq_s_lload_n (kk := 1) (by decide +kernel) rfl ?_
    refine tq_s_iload (i := 7) (by decide +kernel) rfl ?_
    refine tq_s_lushr (by decide +kernel) ?_
    refine tq_k_lc (n := 1) (v := (1 : Int64)) (by decide +kernel) (by decide +kernel) ?_
    refine tq_s_land (by decide +kernel) ?_
    refine tq_k_lc (n := 0) (v := (0 : Int64)) (by decide +kernel) (by decide +kernel) ?_
    refine tq_lcmp_eq (off := 23) (tgt := 46) (by decide +kernel) (by decide +kernel) (by decide +kernel) (fun hc => ?_) (fun hc => ?_)
    · replace h := h.1 hc
      exact ac_X4_imageOf_46 hB6 h
    · replace h := h.2 hc
      refine tq_s_lload (i := 5) (by decide +kernel) rfl ?_
      refine tq_k_lc (n := 1) (v := (1 : Int64)) (by decide +kernel) (by decide +kernel) ?_
      refine tq_s_aload_n (kk := 0) (by decide +kernel) rfl ?_
      refine fg_4_37_28 rfl (by decide +kernel) ?_
      refine tq_s_iload (i := 4) (by decide +kernel) rfl ?_
      refine tq_k_bi (n := 24) (v := (24 : Int32)) (by decide +kernel) kb_24 ?_
      refine tq_s_imul (by decide +kernel) ?_
      refine tq_s_iload (i := 7) (by decide +kernel) rfl ?_
      refine tq_s_iadd (by decide +kernel) ?_
      refine tq_s_iald (by decide +kernel) sh_33 h.1 ?_
      replace h := h.2
      refine tq_s_lshl (by decide +kernel) ?_
      refine tq_s_lor (by decide +kernel) ?_
      refine tq_g_lstore (i := 5) (fun v101 => [.ref 28, .long a1, .null, .int a3, .int a4, .long v101, .null, .int a7, .null]) (by decide +kernel) (by decide) (fun _ => rfl) (fun v101 ev101 => ?_)
      replace h := h v101 ev101
      exact ac_X4_imageOf_46 hB6 h
theorem ac_X4_imageOf_6 {K : Nat × (Nat → Int32)} {x : Nat} {Q : tq_O → tq_S → Prop} {a1 : Int64} {a3 : Int32} {a4 : Int32} {a5 : Int64} {a7 : Int32} {z : tq_S} (h : wc_X4_imageOf_6 Q a1 a3 a4 a5 a7 z) : tq_T K 1 x mm_X4_imageOf 6 [.ref 28, .long a1, .null, .int a3, .int a4, .long a5, .null, .int a7, .null] [] z Q :=
  tq_lp_T (σ := Int64 × Int32 × tq_S) (s := (a5, a7, z)) (G := fun s => tq_T K 1 x mm_X4_imageOf 6 [.ref 28, .long a1, .null, .int a3, .int a4, .long s.1, .null, .int s.2.1, .null] [] s.2.2 Q) (fun B hB s h => ab_X4_imageOf_6 (fun b5 b7 z h => hB (b5, b7, z) h) h) h
def wm_X4_imageOf (a1 : Int64) (a3 : Int32) (a4 : Int32) (z : tq_S) (Q : tq_O → tq_S → Prop) : Prop := wc_X4_imageOf_6 Q a1 a3 a4 (0 : Int64) (0 : Int32) z
theorem am_X4_imageOf {K : Nat × (Nat → Int32)} {x : Nat} {z : tq_S} {Q : tq_O → tq_S → Prop} {a1 : Int64} {a3 : Int32} {a4 : Int32} (h : wm_X4_imageOf a1 a3 a4 z Q) : tq_M K 1 x mm_X4_imageOf [.ref 28, .long a1, .int a3, .int a4] z Q := by
  unfold wm_X4_imageOf at h
  refine tq_enter (L := [.ref 28, .long a1, .null, .int a3, .int a4, .null, .null, .null, .null]) mf_X4_imageOf.1 rfl rfl (Nat.le_of_ble_eq_true rfl) ?_
  refine tq_k_lc (n := 0) (v := (0 : Int64)) (by decide +kernel) (by decide +kernel) ?_
  refine tq_s_lstore (i := 5) (L9 := [.ref 28, .long a1, .null, .int a3, .int a4, .long (0 : Int64), .null, .null, .null]) (by decide +kernel) (by decide) rfl ?_
  refine tq_k_ic (n := 0) (v := (0 : Int32)) (by decide +kernel) kc_0 ?_
  refine tq_s_istore (i := 7) (L9 := [.ref 28, .long a1, .null, .int a3, .int a4, .long (0 : Int64), .null, .int (0 : Int32), .null]) (by decide +kernel) (by decide) rfl ?_
  exact ac_X4_imageOf_6 h
def wc_X4_with_149 (Q : tq_O → tq_S → Prop) (a8 : Int64) (z : tq_S) : Prop := wm_X4_bounded a8 z (tq_wl fun r102 z101 => Q (.inl (some (.long r102))) z101)
theorem ac_X4_with_149 {K : Nat × (Nat → Int32)} {x : Nat} {Q : tq_O → tq_S → Prop} {a8 : Int64} {z : tq_S} (h : wc_X4_with_149 Q a8 z) : tq_T K 2 x mm_X4_with 149 [.ref 28, .null, .null, .null, .null, .null, .null, .null, .long a8, .null, .null, .null, .null] [] z Q := by
  unfold wc_X4_with_149 at h
  refine tq_s_aload_n (kk := 0) (by decide +kernel) rfl ?_
  refine tq_s_lload (i := 8) (by decide +kernel) rfl ?_
  refine tq_callV (as := [.long a8]) (st := []) (d1 := 1) (x1 := 0) (x2 := x) (by decide +kernel) ln_4_153 mf_X4_bounded rfl sh_28 rfl (by decide) np_X4_bounded rfl (Nat.le_of_ble_eq_true rfl) (by decide) (Nat.zero_add _).symm (tq_M_mono (am_X4_bounded h) ?_)
  refine tq_wl_e (fun r102 z101 h => ?_)
  exact tq_ret_l (st := []) (by decide +kernel) rfl h
def wc_X4_with_140 (Q : tq_O → tq_S → Prop) (a8 : Int64) (z : tq_S) : Prop := wc_X4_with_149 Q a8 z
theorem ac_X4_with_140 {K : Nat × (Nat → Int32)} {x : Nat} {Q : tq_O → tq_S → Prop} {a8 : Int64} {z : tq_S} (h : wc_X4_with_140 Q a8 z) : tq_T K 2 x mm_X4_with 140 [.ref 28, .null, .null, .null, .null, .null, .null, .null, .long a8, .null, .null, .null, .null] [] z Q := by
  unfold wc_X4_with_140 at h
  refine tq_s_goto (off := 9) (tgt := 149) (by decide +kernel) (by decide +kernel) ?_
  exact ac_X4_with_149 h
def wc_X4_with_120 (B32 : Int64 → Int64 → Int32 → tq_S → Prop) (Q : tq_O → tq_S → Prop) (a3 : Int64) (a5 : Int32) (a6 : Int32) (a7 : Int32) (a8 : Int64) (a12 : Int32) (s0 : Int64) (z : tq_S) : Prop := (((0 : Int64) ≤ s0 → ((¬ s0 = a3 → ∀ v101 : Int32, v101 = a12 + (1 : Int32) → B32 a8 s0 v101 z) ∧ (s0 = a3 → wc_X4_with_140 Q a8 z))) ∧ (¬ (0 : Int64) ≤ s0 → Q (.inl (some (.long (-1 : Int64)))) z))
theorem ac_X4_with_120 {K : Nat × (Nat → Int32)} {x : Nat} {Q : tq_O → tq_S → Prop} {B32 : Int64 → Int64 → Int32 → tq_S → Prop} {a3 : Int64} {a5 : Int32} {a6 : Int32} {a7 : Int32} {a8 : Int64} {a12 : Int32} {s0 : Int64} {z : tq_S} (hB32 : ∀ (b8 : Int64) (b10 : Int64) (b12 : Int32) (z : tq_S), B32 b8 b10 b12 z → tq_T K 2 x mm_X4_with 32 [.ref 28, .null, .null, .long a3, .null, .int a5, .int a6, .int a7, .long b8, .null, .long b10, .null, .int b12] [] z Q) (h : wc_X4_with_120 B32 Q a3 a5 a6 a7 a8 a12 s0 z) : tq_T K 2 x mm_X4_with 120 [.ref 28, .null, .null, .long a3, .null, .int a5, .int a6, .int a7, .long a8, .null, .null, .null, .int a12] [.long s0] z Q := by
  unfold wc_X4_with_120 at h
  refine tq_s_lstore (i := 10) (L9 := [.ref 28, .null, .null, .long a3, .null, .int a5, .int a6, .int a7, .long a8, .null, .long s0, .null, .int a12]) (by decide +kernel) (by decide) rfl ?_
  refine tq_s_lload (i := 10) (by decide +kernel) rfl ?_
  refine tq_k_lc (n := 0) (v := (0 : Int64)) (by decide +kernel) (by decide +kernel) ?_
  refine tq_lcmp_ge (off := 7) (tgt := 133) (by decide +kernel) (by decide +kernel) (by decide +kernel) (fun hc => ?_) (fun hc => ?_)
  · replace h := h.1 hc
    refine tq_s_lload (i := 10) (by decide +kernel) rfl ?_
    refine tq_s_lload_n (kk := 3) (by decide +kernel) rfl ?_
    refine tq_lcmp_ne (off := 6) (tgt := 143) (by decide +kernel) (by decide +kernel) (by decide +kernel) (fun hc => ?_) (fun hc => ?_)
    · replace h := h.1 hc
      refine tq_g_iinc (i := 12) (fun v101 => [.ref 28, .null, .null, .long a3, .null, .int a5, .int a6, .int a7, .long a8, .null, .long s0, .null, .int v101]) (by decide +kernel) rfl (1 : Int32) kc_1 (fun _ => rfl) (fun v101 ev101 => ?_)
      replace h := h v101 ev101
      refine tq_s_goto (off := -114) (tgt := 32) (by decide +kernel) (by decide +kernel) ?_
      exact hB32 _ _ _ _ h
    · replace h := h.2 hc
      exact tq_to (tq_lk1 (tq_lk1 (tq_lk1 (tq_ld1 (tq_lk1 (tq_ld1 (tq_ld1 (tq_ld1 (tq_lk1 (tq_lk1 (tq_ld1 (tq_lk1 (tq_ld1 tq_l0))))))))))))) (ac_X4_with_140 h)
  · replace h := h.2 hc
    refine tq_s_ldc2 (i := 78) (v := (-1 : Int64)) (by decide +kernel) (by decide +kernel) ?_
    exact tq_ret_l (st := []) (by decide +kernel) rfl h
def wb_X4_with_32 (B32 : Int64 → Int64 → Int32 → tq_S → Prop) (Q : tq_O → tq_S → Prop) (a3 : Int64) (a5 : Int32) (a6 : Int32) (a7 : Int32) (a8 : Int64) (a10 : Int64) (a12 : Int32) (z : tq_S) : Prop := (((4 : Int32) ≤ a12 → wc_X4_with_149 Q a8 z) ∧ (¬ (4 : Int32) ≤ a12 → ((¬ ((a8 &&& a10) &&& (16777215 : Int64)) = (0 : Int64) → Q (.inl (some (.long (-1 : Int64)))) z) ∧ (((a8 &&& a10) &&& (16777215 : Int64)) = (0 : Int64) → ((¬ (((Int64.toUInt64 a8) >>> ((Int32.toInt64 a7).toUInt64 &&& Int64.toUInt64 63)).toInt64 &&& (15 : Int64)) = (0 : Int64) → ∀ v101 : Int64, v101 = (((a8 &&& (((4278190080 : Int64) &&& (a10 ^^^ (-1 : Int64))) ^^^ (-1 : Int64))) ||| (a10 &&& (16777215 : Int64))) - ((1 : Int64) <<< ((Int32.toInt64 a7) &&& 63))) → ((¬ a5 = 0 → wm_X4_imageOf a10 a6 a5 z (tq_wl fun r103 z102 => wc_X4_with_120 B32 Q a3 a5 a6 a7 v101 a12 r103 z102)) ∧ (a5 = 0 → wc_X4_with_120 B32 Q a3 a5 a6 a7 v101 a12 a3 z))) ∧ ((((Int64.toUInt64 a8) >>> ((Int32.toInt64 a7).toUInt64 &&& Int64.toUInt64 63)).toInt64 &&& (15 : Int64)) = (0 : Int64) → Q (.inl (some (.long (-1 : Int64)))) z))))))
def wc_X4_with_32 (Q : tq_O → tq_S → Prop) (a3 : Int64) (a5 : Int32) (a6 : Int32) (a7 : Int32) (a8 : Int64) (a10 : Int64) (a12 : Int32) (z : tq_S) : Prop := tq_lp (σ := Int64 × Int64 × Int32 × tq_S) (fun B s => wb_X4_with_32 (fun b8 b10 b12 z => B (b8, b10, b12, z)) Q a3 a5 a6 a7 s.1 s.2.1 s.2.2.1 s.2.2.2) (a8, a10, a12, z)
theorem ab_X4_with_32 {K : Nat × (Nat → Int32)} {x : Nat} {Q : tq_O → tq_S → Prop} {B32 : Int64 → Int64 → Int32 → tq_S → Prop} {a3 : Int64} {a5 : Int32} {a6 : Int32} {a7 : Int32} {a8 : Int64} {a10 : Int64} {a12 : Int32} {z : tq_S} (hB32 : ∀ (b8 : Int64) (b10 : Int64) (b12 : Int32) (z : tq_S), B32 b8 b10 b12 z → tq_T K 2 x mm_X4_with 32 [.ref 28, .null, .null, .long a3, .null, .int a5, .int a6, .int a7, .long b8, .null, .long b10, .null, .int b12] [] z Q) (h : wb_X4_with_32 B32 Q a3 a5 a6 a7 a8 a10 a12 z) : tq_T K 2 x mm_X4_with 32 [.ref 28, .null, .null, .long a3, .null, .int a5, .int a6, .int a7, .long a8, .null, .long a10, .null, .int a12] [] z Q := by
  unfold wb_X4_with_32 at h
  refine tq_s_iload (i := 12) (by decide +kernel) rfl ?_
  refine tq_k_ic (n := 4) (v := (4 : Int32)) (by decide +kernel) kc_4 ?_
  refine tq_icmp_ge (off := 114) (tgt := 149) (by decide +kernel) (by decide +kernel) (fun hc => ?_) (fun hc => ?_)
  · replace h := h.1 hc
    exact tq_to (tq_lk1 (tq_lk1 (tq_lk1 (tq_ld1 (tq_lk1 (tq_ld1 (tq_ld1 (tq_ld1 (tq_lk1 (tq_lk1 (tq_ld1 (tq_lk1 (tq_ld1 tq_l0))))))))))))) (ac_X4_with_149 h)
  · replace h := h.2 hc
    refine tq_s_lload (i := 8) (by decide +kernel) rfl ?_
    refine tq_s_lload (i := 10) (by decide +kernel) rfl ?_
    refine tq_s_land (by decide +kernel) ?_
    refine tq_s_ldc2 (i := 157) (v := (16777215 : Int64)) (by decide +kernel) (by decide +kernel) ?_
    refine tq_s_land (by decide +kernel) ?_
    refine tq_k_lc (n := 0) (v := (0 : Int64)) (by decide +kernel) (by decide +kernel) ?_
    refine tq_lcmp_ne (off := 17) (tgt := 66) (by decide +kernel) (by decide +kernel) (by decide +kernel) (fun hc => ?_) (fun hc => ?_)
    · replace h := h.1 hc
      refine tq_s_ldc2 (i := 78) (v := (-1 : Int64)) (by decide +kernel) (by decide +kernel) ?_
      exact tq_ret_l (st := []) (by decide +kernel) rfl h
    · replace h := h.2 hc
      refine tq_s_lload (i := 8) (by decide +kernel) rfl ?_
      refine tq_s_iload (i := 7) (by decide +kernel) rfl ?_
      refine tq_s_lushr (by decide +kernel) ?_
      refine tq_s_ldc2 (i := 165) (v := (15 : Int64)) (by decide +kernel) (by decide +kernel) ?_
      refine tq_s_land (by decide +kernel) ?_
      refine tq_k_lc (n := 0) (v := (0 : Int64)) (by decide +kernel) (by decide +kernel) ?_
      refine tq_lcmp_ne (off := 7) (tgt := 70) (by decide +kernel) (by decide +kernel) (by decide +kernel) (fun hc => ?_) (fun hc => ?_)
      · replace h := h.1 hc
        refine tq_s_lload (i := 8) (by decide +kernel) rfl ?_
        refine tq_s_ldc2 (i := 219) (v := (4278190080 : Int64)) (by decide +kernel) (by decide +kernel) ?_
        refine tq_s_lload (i := 10) (by decide +kernel) rfl ?_
        refine tq_s_ldc2 (i := 78) (v := (-1 : Int64)) (by decide +kernel) (by decide +kernel) ?_
        refine tq_s_lxor (by decide +kernel) ?_
        refine tq_s_land (by decide +kernel) ?_
        refine tq_s_ldc2 (i := 78) (v := (-1 : Int64)) (by decide +kernel) (by decide +kernel) ?_
        refine tq_s_lxor (by decide +kernel) ?_
        refine tq_s_land (by decide +kernel) ?_
        refine tq_s_lload (i := 10) (by decide +kernel) rfl ?_
        refine tq_s_ldc2 (i := 157) (v := (16777215 : Int64)) (by decide +kernel) (by decide +kernel) ?_
        refine tq_s_land (by decide +kernel) ?_
        refine tq_s_lor (by decide +kernel) ?_
        refine tq_k_lc (n := 1) (v := (1 : Int64)) (by decide +kernel) (by decide +kernel) ?_
        refine tq_s_iload (i := 7) (by decide +kernel) rfl ?_
        refine tq_s_lshl (by decide +kernel) ?_
        refine tq_s_lsub (by decide +kernel) ?_
        refine tq_g_lstore (i := 8) (fun v101 => [.ref 28, .null, .null, .long a3, .null, .int a5, .int a6, .int a7, .long v101, .null, .long a10, .null, .int a12]) (by decide +kernel) (by decide) (fun _ => rfl) (fun v101 ev101 => ?_)
        replace h := h v101 ev101
        refine tq_s_iload (i := 5) (by decide +kernel) rfl ?_
        refine tq_if_ne (off := 7) (tgt := 110) (by decide +kernel) (by decide +kernel) (fun hc => ?_) (fun hc => ?_)
        · replace h := h.1 hc
          refine tq_s_aload_n (kk := 0) (by decide +kernel) rfl ?_
          refine tq_s_lload (i := 10) (by decide +kernel) rfl ?_
          refine tq_s_iload (i := 6) (by decide +kernel) rfl ?_
          refine tq_s_iload (i := 5) (by decide +kernel) rfl ?_
          refine tq_callV (as := [.long a10, .int a6, .int a5]) (st := []) (d1 := 1) (x1 := 0) (x2 := x) (by decide +kernel) ln_4_221 mf_X4_imageOf rfl sh_28 rfl (by decide) np_X4_imageOf rfl (Nat.le_of_ble_eq_true rfl) (by decide) (Nat.zero_add _).symm (tq_M_mono (am_X4_imageOf h) ?_)
          refine tq_wl_e (fun r103 z102 h => ?_)
          exact tq_to (tq_lk1 (tq_lk1 (tq_lk1 (tq_lk1 (tq_lk1 (tq_lk1 (tq_lk1 (tq_lk1 (tq_lk1 (tq_lk1 (tq_ld1 (tq_lk1 (tq_lk1 tq_l0))))))))))))) (ac_X4_with_120 hB32 h)
        · replace h := h.2 hc
          refine tq_s_lload_n (kk := 3) (by decide +kernel) rfl ?_
          refine tq_s_goto (off := 13) (tgt := 120) (by decide +kernel) (by decide +kernel) ?_
          exact tq_to (tq_lk1 (tq_lk1 (tq_lk1 (tq_lk1 (tq_lk1 (tq_lk1 (tq_lk1 (tq_lk1 (tq_lk1 (tq_lk1 (tq_ld1 (tq_lk1 (tq_lk1 tq_l0))))))))))))) (ac_X4_with_120 hB32 h)
      · replace h := h.2 hc
        refine tq_s_ldc2 (i := 78) (v := (-1 : Int64)) (by decide +kernel) (by decide +kernel) ?_
        exact tq_ret_l (st := []) (by decide +kernel) rfl h
theorem ac_X4_with_32 {K : Nat × (Nat → Int32)} {x : Nat} {Q : tq_O → tq_S → Prop} {a3 : Int64} {a5 : Int32} {a6 : Int32} {a7 : Int32} {a8 : Int64} {a10 : Int64} {a12 : Int32} {z : tq_S} (h : wc_X4_with_32 Q a3 a5 a6 a7 a8 a10 a12 z) : tq_T K 2 x mm_X4_with 32 [.ref 28, .null, .null, .long a3, .null, .int a5, .int a6, .int a7, .long a8, .null, .long a10, .null, .int a12] [] z Q :=
  tq_lp_T (σ := Int64 × Int64 × Int32 × tq_S) (s := (a8, a10, a12, z)) (G := fun s => tq_T K 2 x mm_X4_with 32 [.ref 28, .null, .null, .long a3, .null, .int a5, .int a6, .int a7, .long s.1, .null, .long s.2.1, .null, .int s.2.2.1] [] s.2.2.2 Q) (fun B hB s h => ab_X4_with_32 (fun b8 b10 b12 z h => hB (b8, b10, b12, z) h) h) h
def wm_X4_with (a1 : Int64) (a3 : Int64) (z : tq_S) (Q : tq_O → tq_S → Prop) : Prop := ∀ v1 : Int32, v1 = (Int64.toInt32 ((Int64.toUInt64 a1) >>> ((Int32.toInt64 (56 : Int32)).toUInt64 &&& Int64.toUInt64 63)).toInt64) → ∀ v2 : Int32, v2 = (Int64.toInt32 ((Int64.toUInt64 a3) >>> ((Int32.toInt64 (32 : Int32)).toUInt64 &&& Int64.toUInt64 63)).toInt64) → ∀ v3 : Int32, v3 = ((32 : Int32) + ((4 : Int32) * v2)) → wc_X4_with_32 Q a3 v1 v2 v3 a1 a3 (0 : Int32) z
theorem am_X4_with {K : Nat × (Nat → Int32)} {x : Nat} {z : tq_S} {Q : tq_O → tq_S → Prop} {a1 : Int64} {a3 : Int64} (h : wm_X4_with a1 a3 z Q) : tq_M K 2 x mm_X4_with [.ref 28, .long a1, .long a3] z Q := by
  unfold wm_X4_with at h
  refine tq_enter (L := [.ref 28, .long a1, .null, .long a3, .null, .null, .null, .null, .null, .null, .null, .null, .null]) mf_X4_with.1 rfl rfl (Nat.le_of_ble_eq_true rfl) ?_
  refine tq_s_lload_n (kk := 1) (by decide +kernel) rfl ?_
  refine tq_k_bi (n := 56) (v := (56 : Int32)) (by decide +kernel) kb_56 ?_
  refine tq_s_lushr (by decide +kernel) ?_
  refine tq_s_l2i (by decide +kernel) ?_
  refine tq_g_istore (i := 5) (fun v1 => [.ref 28, .long a1, .null, .long a3, .null, .int v1, .null, .null, .null, .null, .null, .null, .null]) (by decide +kernel) (by decide) (fun _ => rfl) (fun v1 ev1 => ?_)
  replace h := h v1 ev1
  refine tq_s_lload_n (kk := 3) (by decide +kernel) rfl ?_
  refine tq_k_bi (n := 32) (v := (32 : Int32)) (by decide +kernel) kb_32 ?_
  refine tq_s_lushr (by decide +kernel) ?_
  refine tq_s_l2i (by decide +kernel) ?_
  refine tq_g_istore (i := 6) (fun v2 => [.ref 28, .long a1, .null, .long a3, .null, .int v1, .int v2, .null, .null, .null, .null, .null, .null]) (by decide +kernel) (by decide) (fun _ => rfl) (fun v2 ev2 => ?_)
  replace h := h v2 ev2
  refine tq_k_bi (n := 32) (v := (32 : Int32)) (by decide +kernel) kb_32 ?_
  refine tq_k_ic (n := 4) (v := (4 : Int32)) (by decide +kernel) kc_4 ?_
  refine tq_s_iload (i := 6) (by decide +kernel) rfl ?_
  refine tq_s_imul (by decide +kernel) ?_
  refine tq_s_iadd (by decide +kernel) ?_
  refine tq_g_istore (i := 7) (fun v3 => [.ref 28, .long a1, .null, .long a3, .null, .int v1, .int v2, .int v3, .null, .null, .null, .null, .null]) (by decide +kernel) (by decide) (fun _ => rfl) (fun v3 ev3 => ?_)
  replace h := h v3 ev3
  refine tq_s_lload_n (kk := 1) (by decide +kernel) rfl ?_
  refine tq_s_lstore (i := 8) (L9 := [.ref 28, .long a1, .null, .long a3, .null, .int v1, .int v2, .int v3, .long a1, .null, .null, .null, .null]) (by decide +kernel) (by decide) rfl ?_
  refine tq_s_lload_n (kk := 3) (by decide +kernel) rfl ?_
  refine tq_s_lstore (i := 10) (L9 := [.ref 28, .long a1, .null, .long a3, .null, .int v1, .int v2, .int v3, .long a1, .null, .long a3, .null, .null]) (by decide +kernel) (by decide) rfl ?_
  refine tq_k_ic (n := 0) (v := (0 : Int32)) (by decide +kernel) kc_0 ?_
  refine tq_s_istore (i := 12) (L9 := [.ref 28, .long a1, .null, .long a3, .null, .int v1, .int v2, .int v3, .long a1, .null, .long a3, .null, .int (0 : Int32)]) (by decide +kernel) (by decide) rfl ?_
  exact tq_to (tq_lk1 (tq_ld1 (tq_lk1 (tq_lk1 (tq_lk1 (tq_lk1 (tq_lk1 (tq_lk1 (tq_lk1 (tq_lk1 (tq_lk1 (tq_lk1 (tq_lk1 tq_l0))))))))))))) (ac_X4_with_32 h)
def wm_X4_firstOpen (a0 : Int64) (z : tq_S) (Q : tq_O → tq_S → Prop) : Prop := wm_J13_bitCount_95d88 ((a0 &&& ((a0 + (1 : Int64)) ^^^ (-1 : Int64))) &&& (16777215 : Int64)) z (tq_wi fun r2 z1 => Q (.inl (some (.int r2))) z1)
theorem am_X4_firstOpen {K : Nat × (Nat → Int32)} {x : Nat} {z : tq_S} {Q : tq_O → tq_S → Prop} {a0 : Int64} (h : wm_X4_firstOpen a0 z Q) : tq_M K 1 x mm_X4_firstOpen [.long a0] z Q := by
  unfold wm_X4_firstOpen at h
  refine tq_enter (L := [.long a0, .null]) mf_X4_firstOpen.1 rfl rfl (Nat.le_of_ble_eq_true rfl) ?_
  refine tq_s_lload_n (kk := 0) (by decide +kernel) rfl ?_
  refine tq_s_lload_n (kk := 0) (by decide +kernel) rfl ?_
  refine tq_k_lc (n := 1) (v := (1 : Int64)) (by decide +kernel) (by decide +kernel) ?_
  refine tq_s_ladd (by decide +kernel) ?_
  refine tq_s_ldc2 (i := 78) (v := (-1 : Int64)) (by decide +kernel) (by decide +kernel) ?_
  refine tq_s_lxor (by decide +kernel) ?_
  refine tq_s_land (by decide +kernel) ?_
  refine tq_s_ldc2 (i := 157) (v := (16777215 : Int64)) (by decide +kernel) (by decide +kernel) ?_
  refine tq_s_land (by decide +kernel) ?_
  refine tq_callS (as := [.long ((a0 &&& ((a0 + (1 : Int64)) ^^^ (-1 : Int64))) &&& (16777215 : Int64))]) (st := []) (d1 := 0) (x1 := 0) (x2 := x) (by decide +kernel) ln_4_159 mf_J13_bitCount_95d88 rfl (by decide) np_J13_bitCount_95d88 rfl (Nat.le_of_ble_eq_true rfl) (by decide) (Nat.zero_add _).symm (tq_M_mono (am_J13_bitCount_95d88 h) ?_)
  refine tq_wi_e (fun r2 z1 h => ?_)
  exact tq_ret_i (st := []) (by decide +kernel) rfl h
def wc_X4_sumOver_60 (R : Int64 → Int32 → tq_S → (tq_O → tq_S → Prop) → Prop) (B11 : Int64 → Int32 → tq_S → Prop) (Q : tq_O → tq_S → Prop) (a1 : Int64) (a3 : Int32) (a4 : Int32) (a5 : Int64) (a7 : Int32) (z : tq_S) : Prop := ∀ v101 : Int32, v101 = a7 + (1 : Int32) → B11 a5 v101 z
theorem ac_X4_sumOver_60 {K : Nat × (Nat → Int32)} {x : Nat} {Q : tq_O → tq_S → Prop} {n : Nat} {R : Int64 → Int32 → tq_S → (tq_O → tq_S → Prop) → Prop} {B11 : Int64 → Int32 → tq_S → Prop} {a1 : Int64} {a3 : Int32} {a4 : Int32} {a5 : Int64} {a7 : Int32} {z : tq_S} (hR : ∀ (a1 : Int64) (a3 : Int32) (z : tq_S) (Q : tq_O → tq_S → Prop), R a1 a3 z Q → tq_M K (8 + 2 * n) 0 mm_X4_search [.ref 28, .long a1, .int a3] z Q) (hB11 : ∀ (b5 : Int64) (b7 : Int32) (z : tq_S), B11 b5 b7 z → tq_T K (8 + 2 * n + 1) x mm_X4_sumOver 11 [.ref 28, .long a1, .null, .int a3, .int a4, .long b5, .null, .int b7, .null, .null] [] z Q) (h : wc_X4_sumOver_60 R B11 Q a1 a3 a4 a5 a7 z) : tq_T K (8 + 2 * n + 1) x mm_X4_sumOver 60 [.ref 28, .long a1, .null, .int a3, .int a4, .long a5, .null, .int a7, .null, .null] [] z Q := by
  unfold wc_X4_sumOver_60 at h
  refine tq_g_iinc (i := 7) (fun v101 => [.ref 28, .long a1, .null, .int a3, .int a4, .long a5, .null, .int v101, .null, .null]) (by decide +kernel) rfl (1 : Int32) kc_1 (fun _ => rfl) (fun v101 ev101 => ?_)
  replace h := h v101 ev101
  refine tq_s_goto (off := -52) (tgt := 11) (by decide +kernel) (by decide +kernel) ?_
  exact hB11 _ _ _ h
def wb_X4_sumOver_11 (R : Int64 → Int32 → tq_S → (tq_O → tq_S → Prop) → Prop) (B11 : Int64 → Int32 → tq_S → Prop) (Q : tq_O → tq_S → Prop) (a1 : Int64) (a3 : Int32) (a4 : Int32) (a5 : Int64) (a7 : Int32) (z : tq_S) : Prop := vp_in (a3 + (1 : Int32)) 25 ∧ (((tq_ai z 30 (Int32.toNatClampNeg (a3 + (1 : Int32)))) ≤ a7 → Q (.inl (some (.long a5))) z) ∧ (¬ (tq_ai z 30 (Int32.toNatClampNeg (a3 + (1 : Int32)))) ≤ a7 → vp_in a7 1152 ∧ wm_X4_with a1 (tq_al z 29 (Int32.toNatClampNeg a7)) z (tq_wl fun r102 z101 => ((r102 < (0 : Int64) → wc_X4_sumOver_60 R B11 Q a1 a3 a4 a5 a7 z101) ∧ (¬ r102 < (0 : Int64) → R r102 (a4 + (1 : Int32)) z101 (tq_wl fun r104 z103 => ∀ v105 : Int64, v105 = (a5 + r104) → wc_X4_sumOver_60 R B11 Q a1 a3 a4 v105 a7 z103))))))
def wc_X4_sumOver_11 (R : Int64 → Int32 → tq_S → (tq_O → tq_S → Prop) → Prop) (Q : tq_O → tq_S → Prop) (a1 : Int64) (a3 : Int32) (a4 : Int32) (a5 : Int64) (a7 : Int32) (z : tq_S) : Prop := tq_lp (σ := Int64 × Int32 × tq_S) (fun B s => wb_X4_sumOver_11 R (fun b5 b7 z => B (b5, b7, z)) Q a1 a3 a4 s.1 s.2.1 s.2.2) (a5, a7, z)
theorem ab_X4_sumOver_11 {K : Nat × (Nat → Int32)} {x : Nat} {Q : tq_O → tq_S → Prop} {n : Nat} {R : Int64 → Int32 → tq_S → (tq_O → tq_S → Prop) → Prop} {B11 : Int64 → Int32 → tq_S → Prop} {a1 : Int64} {a3 : Int32} {a4 : Int32} {a5 : Int64} {a7 : Int32} {z : tq_S} (hR : ∀ (a1 : Int64) (a3 : Int32) (z : tq_S) (Q : tq_O → tq_S → Prop), R a1 a3 z Q → tq_M K (8 + 2 * n) 0 mm_X4_search [.ref 28, .long a1, .int a3] z Q) (hB11 : ∀ (b5 : Int64) (b7 : Int32) (z : tq_S), B11 b5 b7 z → tq_T K (8 + 2 * n + 1) x mm_X4_sumOver 11 [.ref 28, .long a1, .null, .int a3, .int a4, .long b5, .null, .int b7, .null, .null] [] z Q) (h : wb_X4_sumOver_11 R B11 Q a1 a3 a4 a5 a7 z) : tq_T K (8 + 2 * n + 1) x mm_X4_sumOver 11 [.ref 28, .long a1, .null, .int a3, .int a4, .long a5, .null, .int a7, .null, .null] [] z Q := by
  unfold wb_X4_sumOver_11 at h
  refine tq_s_iload (i := 7) (by decide +kernel) rfl ?_
  refine tq_s_aload_n (kk := 0) (by decide +kernel) rfl ?_
  refine fg_4_23_28 rfl (by decide +kernel) ?_
  refine tq_s_iload_n (kk := 3) (by decide +kernel) rfl ?_
  refine tq_k_ic (n := 1) (v := (1 : Int32)) (by decide +kernel) kc_1 ?_
  refine tq_s_iadd (by decide +kernel) ?_
  refine tq_s_iald (by decide +kernel) sh_30 h.1 ?_
  replace h := h.2
  refine tq_icmp_ge (off := 45) (tgt := 66) (by decide +kernel) (by decide +kernel) (fun hc => ?_) (fun hc => ?_)
  · replace h := h.1 hc
    refine tq_s_lload (i := 5) (by decide +kernel) rfl ?_
    exact tq_ret_l (st := []) (by decide +kernel) rfl h
  · replace h := h.2 hc
    refine tq_s_aload_n (kk := 0) (by decide +kernel) rfl ?_
    refine tq_s_lload_n (kk := 1) (by decide +kernel) rfl ?_
    refine tq_s_aload_n (kk := 0) (by decide +kernel) rfl ?_
    refine fg_4_19_28 rfl (by decide +kernel) ?_
    refine tq_s_iload (i := 7) (by decide +kernel) rfl ?_
    refine tq_s_lald (by decide +kernel) sh_29 h.1 ?_
    replace h := h.2
    refine tq_callV (as := [.long a1, .long (tq_al z 29 (Int32.toNatClampNeg a7))]) (st := []) (d1 := 2) (x1 := 0) (x2 := x) (by decide +kernel) ln_4_100 mf_X4_with rfl sh_28 rfl (by decide) np_X4_with rfl (Nat.le_of_ble_eq_true rfl) (by omega) (Nat.zero_add _).symm (tq_M_mono (am_X4_with h) ?_)
    refine tq_wl_e (fun r102 z101 h => ?_)
    refine tq_s_lstore (i := 8) (L9 := [.ref 28, .long a1, .null, .int a3, .int a4, .long a5, .null, .int a7, .long r102, .null]) (by decide +kernel) (by decide) rfl ?_
    refine tq_s_lload (i := 8) (by decide +kernel) rfl ?_
    refine tq_k_lc (n := 0) (v := (0 : Int64)) (by decide +kernel) (by decide +kernel) ?_
    refine tq_lcmp_lt (off := 18) (tgt := 60) (by decide +kernel) (by decide +kernel) (by decide +kernel) (fun hc => ?_) (fun hc => ?_)
    · replace h := h.1 hc
      exact tq_to (tq_lk1 (tq_lk1 (tq_lk1 (tq_lk1 (tq_lk1 (tq_lk1 (tq_lk1 (tq_lk1 (tq_ld1 (tq_lk1 tq_l0)))))))))) (ac_X4_sumOver_60 hR hB11 h)
    · replace h := h.2 hc
      refine tq_s_lload (i := 5) (by decide +kernel) rfl ?_
      refine tq_s_aload_n (kk := 0) (by decide +kernel) rfl ?_
      refine tq_s_lload (i := 8) (by decide +kernel) rfl ?_
      refine tq_s_iload (i := 4) (by decide +kernel) rfl ?_
      refine tq_k_ic (n := 1) (v := (1 : Int32)) (by decide +kernel) kc_1 ?_
      refine tq_s_iadd (by decide +kernel) ?_
      refine tq_callV (as := [.long r102, .int (a4 + (1 : Int32))]) (st := [.long a5]) (d1 := (8 + 2 * n)) (x1 := 0) (x2 := x) (by decide +kernel) ln_4_104 mf_X4_search rfl sh_28 rfl (by decide) np_X4_search rfl (Nat.le_of_ble_eq_true rfl) (by omega) (Nat.zero_add _).symm (tq_M_mono (hR _ _ _ _ h) ?_)
      refine tq_wl_e (fun r104 z103 h => ?_)
      refine tq_s_ladd (by decide +kernel) ?_
      refine tq_g_lstore (i := 5) (fun v105 => [.ref 28, .long a1, .null, .int a3, .int a4, .long v105, .null, .int a7, .long r102, .null]) (by decide +kernel) (by decide) (fun _ => rfl) (fun v105 ev105 => ?_)
      replace h := h v105 ev105
      exact tq_to (tq_lk1 (tq_lk1 (tq_lk1 (tq_lk1 (tq_lk1 (tq_lk1 (tq_lk1 (tq_lk1 (tq_ld1 (tq_lk1 tq_l0)))))))))) (ac_X4_sumOver_60 hR hB11 h)
theorem ac_X4_sumOver_11 {K : Nat × (Nat → Int32)} {x : Nat} {Q : tq_O → tq_S → Prop} {n : Nat} {R : Int64 → Int32 → tq_S → (tq_O → tq_S → Prop) → Prop} {a1 : Int64} {a3 : Int32} {a4 : Int32} {a5 : Int64} {a7 : Int32} {z : tq_S} (hR : ∀ (a1 : Int64) (a3 : Int32) (z : tq_S) (Q : tq_O → tq_S → Prop), R a1 a3 z Q → tq_M K (8 + 2 * n) 0 mm_X4_search [.ref 28, .long a1, .int a3] z Q) (h : wc_X4_sumOver_11 R Q a1 a3 a4 a5 a7 z) : tq_T K (8 + 2 * n + 1) x mm_X4_sumOver 11 [.ref 28, .long a1, .null, .int a3, .int a4, .long a5, .null, .int a7, .null, .null] [] z Q :=
  tq_lp_T (σ := Int64 × Int32 × tq_S) (s := (a5, a7, z)) (G := fun s => tq_T K (8 + 2 * n + 1) x mm_X4_sumOver 11 [.ref 28, .long a1, .null, .int a3, .int a4, .long s.1, .null, .int s.2.1, .null, .null] [] s.2.2 Q) (fun B hB s h => ab_X4_sumOver_11 hR (fun b5 b7 z h => hB (b5, b7, z) h) h) h
def wm_X4_sumOver (R : Int64 → Int32 → tq_S → (tq_O → tq_S → Prop) → Prop) (a1 : Int64) (a3 : Int32) (a4 : Int32) (z : tq_S) (Q : tq_O → tq_S → Prop) : Prop := vp_in a3 25 ∧ ∀ v1 : Int32, v1 = (tq_ai z 30 (Int32.toNatClampNeg a3)) → wc_X4_sumOver_11 R Q a1 a3 a4 (0 : Int64) v1 z
theorem am_X4_sumOver {K : Nat × (Nat → Int32)} {x : Nat} {n : Nat} {R : Int64 → Int32 → tq_S → (tq_O → tq_S → Prop) → Prop} {a1 : Int64} {a3 : Int32} {a4 : Int32} {z : tq_S} {Q : tq_O → tq_S → Prop} (hR : ∀ (a1 : Int64) (a3 : Int32) (z : tq_S) (Q : tq_O → tq_S → Prop), R a1 a3 z Q → tq_M K (8 + 2 * n) 0 mm_X4_search [.ref 28, .long a1, .int a3] z Q) (h : wm_X4_sumOver R a1 a3 a4 z Q) : tq_M K (8 + 2 * n + 1) x mm_X4_sumOver [.ref 28, .long a1, .int a3, .int a4] z Q := by
  unfold wm_X4_sumOver at h
  refine tq_enter (L := [.ref 28, .long a1, .null, .int a3, .int a4, .null, .null, .null, .null, .null]) mf_X4_sumOver.1 rfl rfl (Nat.le_of_ble_eq_true rfl) ?_
  refine tq_k_lc (n := 0) (v := (0 : Int64)) (by decide +kernel) (by decide +kernel) ?_
  refine tq_s_lstore (i := 5) (L9 := [.ref 28, .long a1, .null, .int a3, .int a4, .long (0 : Int64), .null, .null, .null, .null]) (by decide +kernel) (by decide) rfl ?_
  refine tq_s_aload_n (kk := 0) (by decide +kernel) rfl ?_
  refine fg_4_23_28 rfl (by decide +kernel) ?_
  refine tq_s_iload_n (kk := 3) (by decide +kernel) rfl ?_
  refine tq_s_iald (by decide +kernel) sh_30 h.1 ?_
  replace h := h.2
  refine tq_g_istore (i := 7) (fun v1 => [.ref 28, .long a1, .null, .int a3, .int a4, .long (0 : Int64), .null, .int v1, .null, .null]) (by decide +kernel) (by decide) (fun _ => rfl) (fun v1 ev1 => ?_)
  replace h := h v1 ev1
  exact ac_X4_sumOver_11 hR h
def wm_X4_weigh (a0 : Int64) (z : tq_S) (Q : tq_O → tq_S → Prop) : Prop := wm_J13_bitCount_95d88 (a0 &&& (4278190080 : Int64)) z (tq_wi fun r2 z1 => ((¬ r2 = 0 → (¬ r2 = 0) ∧ Q (.inl (some (.long (Int32.toInt64 ((840 : Int32) / r2))))) z1) ∧ (r2 = 0 → Q (.inl (some (.long (1 : Int64)))) z1)))
theorem am_X4_weigh {K : Nat × (Nat → Int32)} {x : Nat} {z : tq_S} {Q : tq_O → tq_S → Prop} {a0 : Int64} (h : wm_X4_weigh a0 z Q) : tq_M K 1 x mm_X4_weigh [.long a0] z Q := by
  unfold wm_X4_weigh at h
  refine tq_enter (L := [.long a0, .null, .null]) mf_X4_weigh.1 rfl rfl (Nat.le_of_ble_eq_true rfl) ?_
  refine tq_s_lload_n (kk := 0) (by decide +kernel) rfl ?_
  refine tq_s_ldc2 (i := 219) (v := (4278190080 : Int64)) (by decide +kernel) (by decide +kernel) ?_
  refine tq_s_land (by decide +kernel) ?_
  refine tq_callS (as := [.long (a0 &&& (4278190080 : Int64))]) (st := []) (d1 := 0) (x1 := 0) (x2 := x) (by decide +kernel) ln_4_159 mf_J13_bitCount_95d88 rfl (by decide) np_J13_bitCount_95d88 rfl (Nat.le_of_ble_eq_true rfl) (by decide) (Nat.zero_add _).symm (tq_M_mono (am_J13_bitCount_95d88 h) ?_)
  refine tq_wi_e (fun r2 z1 h => ?_)
  refine tq_s_istore_n (kk := 2) (L9 := [.long a0, .null, .int r2]) (by decide +kernel) (by decide) rfl ?_
  refine tq_s_iload_n (kk := 2) (by decide +kernel) rfl ?_
  refine tq_if_ne (off := 7) (tgt := 17) (by decide +kernel) (by decide +kernel) (fun hc => ?_) (fun hc => ?_)
  · replace h := h.1 hc
    refine tq_k_si (n := 840) (v := (840 : Int32)) (by decide +kernel) ks_840 ?_
    refine tq_s_iload_n (kk := 2) (by decide +kernel) rfl ?_
    refine tq_s_idiv (by decide +kernel) h.1 ?_
    replace h := h.2
    refine tq_s_i2l (by decide +kernel) ?_
    exact tq_ret_l (st := []) (by decide +kernel) rfl h
  · replace h := h.2 hc
    refine tq_k_lc (n := 1) (v := (1 : Int64)) (by decide +kernel) (by decide +kernel) ?_
    refine tq_s_goto (off := 9) (tgt := 23) (by decide +kernel) (by decide +kernel) ?_
    exact tq_ret_l (st := []) (by decide +kernel) rfl h
def we_X4_search (R : Int64 → Int32 → tq_S → (tq_O → tq_S → Prop) → Prop) (a1 : Int64) (a3 : Int32) (z : tq_S) (Q : tq_O → tq_S → Prop) : Prop := wm_X4_firstOpen a1 z (tq_wi fun r2 z1 => ((r2 < (tq_fi z1 1804) → ((a3 < (8 : Int32) → ∀ v3 : Int32, v3 = (Int64.toInt32 ((Int64.toUInt64 (a1 * (-7046029254386353131 : Int64))) >>> ((Int32.toInt64 (53 : Int32)).toUInt64 &&& Int64.toUInt64 63)).toInt64) → vp_in v3 2048 ∧ ((¬ (tq_al z1 34 (Int32.toNatClampNeg v3)) = (a1 + (1 : Int64)) → wm_X4_sumOver R a1 r2 a3 z1 (tq_wl fun r5 z4 => vp_in v3 2048 ∧ ∀ z6 : tq_S, z6 = tq_sal z4 34 (vp_updL (tq_al z4 34) (Int32.toNatClampNeg v3) (a1 + (1 : Int64))) → vp_in v3 2048 ∧ ∀ z7 : tq_S, z7 = tq_sal z6 35 (vp_updL (tq_al z6 35) (Int32.toNatClampNeg v3) r5) → Q (.inl (some (.long r5))) z7)) ∧ ((tq_al z1 34 (Int32.toNatClampNeg v3)) = (a1 + (1 : Int64)) → vp_in v3 2048 ∧ Q (.inl (some (.long (tq_al z1 35 (Int32.toNatClampNeg v3))))) z1))) ∧ (¬ a3 < (8 : Int32) → Q (.inl (some (.long (0 : Int64)))) z1))) ∧ (¬ r2 < (tq_fi z1 1804) → wm_X4_weigh a1 z1 (tq_wl fun r9 z8 => Q (.inl (some (.long r9))) z8))))
def wm_X4_search : Nat → Int64 → Int32 → tq_S → (tq_O → tq_S → Prop) → Prop
  | 0, _, _, _, _ => False
  | n + 1, a1, a3, z, Q => we_X4_search (wm_X4_search n) a1 a3 z Q
theorem ae_X4_search {K : Nat × (Nat → Int32)} {x : Nat} {n : Nat} {R : Int64 → Int32 → tq_S → (tq_O → tq_S → Prop) → Prop} {a1 : Int64} {a3 : Int32} {z : tq_S} {Q : tq_O → tq_S → Prop} (hR : ∀ (a1 : Int64) (a3 : Int32) (z : tq_S) (Q : tq_O → tq_S → Prop), R a1 a3 z Q → tq_M K (8 + 2 * n) 0 mm_X4_search [.ref 28, .long a1, .int a3] z Q) (h : we_X4_search R a1 a3 z Q) : tq_M K (8 + 2 * n + 2) x mm_X4_search [.ref 28, .long a1, .int a3] z Q := by
  unfold we_X4_search at h
  refine tq_enter (L := [.ref 28, .long a1, .null, .int a3, .null, .null, .null, .null]) mf_X4_search.1 rfl rfl (Nat.le_of_ble_eq_true rfl) ?_
  refine tq_s_lload_n (kk := 1) (by decide +kernel) rfl ?_
  refine tq_callS (as := [.long a1]) (st := []) (d1 := 1) (x1 := 0) (x2 := x) (by decide +kernel) ln_4_207 mf_X4_firstOpen rfl (by decide) np_X4_firstOpen rfl (Nat.le_of_ble_eq_true rfl) (by omega) (Nat.zero_add _).symm (tq_M_mono (am_X4_firstOpen h) ?_)
  refine tq_wi_e (fun r2 z1 h => ?_)
  refine tq_s_istore (i := 4) (L9 := [.ref 28, .long a1, .null, .int a3, .int r2, .null, .null, .null]) (by decide +kernel) (by decide) rfl ?_
  refine tq_s_iload (i := 4) (by decide +kernel) rfl ?_
  refine tq_s_aload_n (kk := 0) (by decide +kernel) rfl ?_
  refine fg_4_84_28 rfl (by decide +kernel) ?_
  refine tq_icmp_lt (off := 8) (tgt := 20) (by decide +kernel) (by decide +kernel) (fun hc => ?_) (fun hc => ?_)
  · replace h := h.1 hc
    refine tq_s_iload_n (kk := 3) (by decide +kernel) rfl ?_
    refine tq_k_bi (n := 8) (v := (8 : Int32)) (by decide +kernel) kb_8 ?_
    refine tq_icmp_lt (off := 5) (tgt := 28) (by decide +kernel) (by decide +kernel) (fun hc => ?_) (fun hc => ?_)
    · replace h := h.1 hc
      refine tq_s_lload_n (kk := 1) (by decide +kernel) rfl ?_
      refine tq_s_ldc2 (i := 213) (v := (-7046029254386353131 : Int64)) (by decide +kernel) (by decide +kernel) ?_
      refine tq_s_lmul (by decide +kernel) ?_
      refine tq_k_bi (n := 53) (v := (53 : Int32)) (by decide +kernel) kb_53 ?_
      refine tq_s_lushr (by decide +kernel) ?_
      refine tq_s_l2i (by decide +kernel) ?_
      refine tq_g_istore (i := 5) (fun v3 => [.ref 28, .long a1, .null, .int a3, .int r2, .int v3, .null, .null]) (by decide +kernel) (by decide) (fun _ => rfl) (fun v3 ev3 => ?_)
      replace h := h v3 ev3
      refine tq_s_aload_n (kk := 0) (by decide +kernel) rfl ?_
      refine fg_4_40_28 rfl (by decide +kernel) ?_
      refine tq_s_iload (i := 5) (by decide +kernel) rfl ?_
      refine tq_s_lald (by decide +kernel) sh_34 h.1 ?_
      replace h := h.2
      refine tq_s_lload_n (kk := 1) (by decide +kernel) rfl ?_
      refine tq_k_lc (n := 1) (v := (1 : Int64)) (by decide +kernel) (by decide +kernel) ?_
      refine tq_s_ladd (by decide +kernel) ?_
      refine tq_lcmp_ne (off := 11) (tgt := 61) (by decide +kernel) (by decide +kernel) (by decide +kernel) (fun hc => ?_) (fun hc => ?_)
      · replace h := h.1 hc
        refine tq_s_aload_n (kk := 0) (by decide +kernel) rfl ?_
        refine tq_s_lload_n (kk := 1) (by decide +kernel) rfl ?_
        refine tq_s_iload (i := 4) (by decide +kernel) rfl ?_
        refine tq_s_iload_n (kk := 3) (by decide +kernel) rfl ?_
        refine tq_callV (as := [.long a1, .int r2, .int a3]) (st := []) (d1 := (8 + 2 * n + 1)) (x1 := 0) (x2 := x) (by decide +kernel) ln_4_215 mf_X4_sumOver rfl sh_28 rfl (by decide) np_X4_sumOver rfl (Nat.le_of_ble_eq_true rfl) (by omega) (Nat.zero_add _).symm (tq_M_mono (am_X4_sumOver hR h) ?_)
        refine tq_wl_e (fun r5 z4 h => ?_)
        refine tq_s_lstore (i := 6) (L9 := [.ref 28, .long a1, .null, .int a3, .int r2, .int v3, .long r5, .null]) (by decide +kernel) (by decide) rfl ?_
        refine tq_s_aload_n (kk := 0) (by decide +kernel) rfl ?_
        refine fg_4_40_28 rfl (by decide +kernel) ?_
        refine tq_s_iload (i := 5) (by decide +kernel) rfl ?_
        refine tq_s_lload_n (kk := 1) (by decide +kernel) rfl ?_
        refine tq_k_lc (n := 1) (v := (1 : Int64)) (by decide +kernel) (by decide +kernel) ?_
        refine tq_s_ladd (by decide +kernel) ?_
        refine tq_g_last (by decide +kernel) sh_34 h.1 (fun z6 ez6 => ?_)
        replace h := h.2 z6 ez6
        refine tq_s_aload_n (kk := 0) (by decide +kernel) rfl ?_
        refine fg_4_43_28 rfl (by decide +kernel) ?_
        refine tq_s_iload (i := 5) (by decide +kernel) rfl ?_
        refine tq_s_lload (i := 6) (by decide +kernel) rfl ?_
        refine tq_g_last (by decide +kernel) sh_35 h.1 (fun z7 ez7 => ?_)
        replace h := h.2 z7 ez7
        refine tq_s_lload (i := 6) (by decide +kernel) rfl ?_
        exact tq_ret_l (st := []) (by decide +kernel) rfl h
      · replace h := h.2 hc
        refine tq_s_aload_n (kk := 0) (by decide +kernel) rfl ?_
        refine fg_4_43_28 rfl (by decide +kernel) ?_
        refine tq_s_iload (i := 5) (by decide +kernel) rfl ?_
        refine tq_s_lald (by decide +kernel) sh_35 h.1 ?_
        replace h := h.2
        exact tq_ret_l (st := []) (by decide +kernel) rfl h
    · replace h := h.2 hc
      refine tq_k_lc (n := 0) (v := (0 : Int64)) (by decide +kernel) (by decide +kernel) ?_
      exact tq_ret_l (st := []) (by decide +kernel) rfl h
  · replace h := h.2 hc
    refine tq_s_lload_n (kk := 1) (by decide +kernel) rfl ?_
    refine tq_callS (as := [.long a1]) (st := []) (d1 := 1) (x1 := 0) (x2 := x) (by decide +kernel) ln_4_210 mf_X4_weigh rfl (by decide) np_X4_weigh rfl (Nat.le_of_ble_eq_true rfl) (by omega) (Nat.zero_add _).symm (tq_M_mono (am_X4_weigh h) ?_)
    refine tq_wl_e (fun r9 z8 h => ?_)
    exact tq_ret_l (st := []) (by decide +kernel) rfl h
theorem am_X4_search {K : Nat × (Nat → Int32)} : ∀ (n : Nat) {x : Nat} {a1 : Int64} {a3 : Int32} {z : tq_S} {Q : tq_O → tq_S → Prop} (h : wm_X4_search n a1 a3 z Q), tq_M K (8 + 2 * n) x mm_X4_search [.ref 28, .long a1, .int a3] z Q
  | 0, _, _, _, _, _, h => False.elim h
  | n + 1, _, _, _, _, _, h => ae_X4_search (n := n) (fun _ _ _ _ h => am_X4_search n h) h
