def wm_X3_setSign (a2 : Int64) (a4 : Int32) (a5 : Int32) (a6 : Int32) (a7 : Int64) (z : tq_S) (Q : tq_O → tq_S → Prop) : Prop := wm_X1_holds a5 a6 z (tq_wi fun r2 z1 => ((r2 = 0 → Q (.inl none) z1) ∧ (¬ r2 = 0 → wm_X1_bit a5 a6 z1 (tq_wl fun r4 z3 => wm_J13_bitCount_95d88 (a2 &&& (r4 - (1 : Int64))) z3 (tq_wi fun r6 z5 => vp_in ((a4 * (32 : Int32)) + r6) 1024 ∧ ∀ z7 : tq_S, z7 = tq_sal z5 17 (vp_updL (tq_al z5 17) (Int32.toNatClampNeg ((a4 * (32 : Int32)) + r6)) a7) → Q (.inl none) z7)))))
theorem am_X3_setSign {K : Nat × (Nat → Int32)} {x : Nat} {z : tq_S} {Q : tq_O → tq_S → Prop} {a2 : Int64} {a4 : Int32} {a5 : Int32} {a6 : Int32} {a7 : Int64} (h : wm_X3_setSign a2 a4 a5 a6 a7 z Q) : tq_M K 1 x mm_X3_setSign [.ref 16, .ref 1, .long a2, .int a4, .int a5, .int a6, .long a7] z Q := by
  unfold wm_X3_setSign at h
  refine tq_enter (L := [.ref 16, .ref 1, .long a2, .null, .int a4, .int a5, .int a6, .long a7, .null, .null]) mf_X3_setSign.1 rfl rfl (Nat.le_of_ble_eq_true rfl) ?_
  refine tq_s_aload_n (kk := 1) (by decide +kernel) rfl ?_
  refine tq_s_iload (i := 5) (by decide +kernel) rfl ?_
  refine tq_s_iload (i := 6) (by decide +kernel) rfl ?_
  refine tq_callVN (as := [.int a5, .int a6]) (st := []) (d1 := 0) (x1 := 0) (x2 := x) (by decide +kernel) ln_3_92 mf_X1_holds rfl sh_1 rfl (by decide) np_X1_holds rfl (Nat.le_of_ble_eq_true rfl) (by decide) (Nat.zero_add _).symm (tq_M_mono (am_X1_holds h) ?_)
  refine tq_wi_e (fun r2 z1 h => ?_)
  refine tq_if_eq (off := 34) (tgt := 42) (by decide +kernel) (by decide +kernel) (fun hc => ?_) (fun hc => ?_)
  · replace h := h.1 hc
    exact tq_ret_v (st := []) (by decide +kernel) rfl h
  · replace h := h.2 hc
    refine tq_s_lload_n (kk := 2) (by decide +kernel) rfl ?_
    refine tq_s_iload (i := 5) (by decide +kernel) rfl ?_
    refine tq_s_iload (i := 6) (by decide +kernel) rfl ?_
    refine tq_callSN (as := [.int a5, .int a6]) (st := [.long a2]) (d1 := 0) (x1 := 0) (x2 := x) (by decide +kernel) ln_3_84 mf_X1_bit rfl (by decide) np_X1_bit rfl (Nat.le_of_ble_eq_true rfl) (by decide) (Nat.zero_add _).symm (tq_M_mono (am_X1_bit h) ?_)
    refine tq_wl_e (fun r4 z3 h => ?_)
    refine tq_k_lc (n := 1) (v := (1 : Int64)) (by decide +kernel) (by decide +kernel) ?_
    refine tq_s_lsub (by decide +kernel) ?_
    refine tq_s_land (by decide +kernel) ?_
    refine tq_callS (as := [.long (a2 &&& (r4 - (1 : Int64)))]) (st := []) (d1 := 0) (x1 := 0) (x2 := x) (by decide +kernel) ln_3_38 mf_J13_bitCount_95d88 rfl (by decide) np_J13_bitCount_95d88 rfl (Nat.le_of_ble_eq_true rfl) (by decide) (Nat.zero_add _).symm (tq_M_mono (am_J13_bitCount_95d88 h) ?_)
    refine tq_wi_e (fun r6 z5 h => ?_)
    refine tq_s_istore (i := 9) (L9 := [.ref 16, .ref 1, .long a2, .null, .int a4, .int a5, .int a6, .long a7, .null, .int r6]) (by decide +kernel) (by decide) rfl ?_
    refine tq_s_aload_n (kk := 0) (by decide +kernel) rfl ?_
    refine fg_3_9_16 rfl (by decide +kernel) ?_
    refine tq_s_iload (i := 4) (by decide +kernel) rfl ?_
    refine tq_k_bi (n := 32) (v := (32 : Int32)) (by decide +kernel) kb_32 ?_
    refine tq_s_imul (by decide +kernel) ?_
    refine tq_s_iload (i := 9) (by decide +kernel) rfl ?_
    refine tq_s_iadd (by decide +kernel) ?_
    refine tq_s_lload (i := 7) (by decide +kernel) rfl ?_
    refine tq_g_last (by decide +kernel) sh_17 h.1 (fun z7 ez7 => ?_)
    replace h := h.2 z7 ez7
    exact tq_ret_v (st := []) (by decide +kernel) rfl h
def wc_X3_fillSigns_142 (B14 : Int32 → Int32 → tq_S → Prop) (B26 : Int32 → Int32 → tq_S → Prop) (Q : tq_O → tq_S → Prop) (a2 : Int64) (a4 : Int64) (a6 : Int64) (a8 : Int32) (a9 : Int32) (a10 : Int32) (z : tq_S) : Prop := ∀ v101 : Int32, v101 = a10 + (1 : Int32) → B26 a8 v101 z
theorem ac_X3_fillSigns_142 {K : Nat × (Nat → Int32)} {x : Nat} {Q : tq_O → tq_S → Prop} {B14 : Int32 → Int32 → tq_S → Prop} {B26 : Int32 → Int32 → tq_S → Prop} {a2 : Int64} {a4 : Int64} {a6 : Int64} {a8 : Int32} {a9 : Int32} {a10 : Int32} {z : tq_S} (hB14 : ∀ (b8 : Int32) (b9 : Int32) (z : tq_S), B14 b8 b9 z → tq_T K 2 x mm_X3_fillSigns 14 [.ref 16, .ref 1, .long a2, .null, .long a4, .null, .long a6, .null, .int b8, .int b9, .null, .null, .null] [] z Q) (hB26 : ∀ (b8 : Int32) (b10 : Int32) (z : tq_S), B26 b8 b10 z → tq_T K 2 x mm_X3_fillSigns 26 [.ref 16, .ref 1, .long a2, .null, .long a4, .null, .long a6, .null, .int b8, .int a9, .int b10, .null, .null] [] z Q) (h : wc_X3_fillSigns_142 B14 B26 Q a2 a4 a6 a8 a9 a10 z) : tq_T K 2 x mm_X3_fillSigns 142 [.ref 16, .ref 1, .long a2, .null, .long a4, .null, .long a6, .null, .int a8, .int a9, .int a10, .null, .null] [] z Q := by
  unfold wc_X3_fillSigns_142 at h
  refine tq_g_iinc (i := 10) (fun v101 => [.ref 16, .ref 1, .long a2, .null, .long a4, .null, .long a6, .null, .int a8, .int a9, .int v101, .null, .null]) (by decide +kernel) rfl (1 : Int32) kc_1 (fun _ => rfl) (fun v101 ev101 => ?_)
  replace h := h v101 ev101
  refine tq_s_goto (off := -119) (tgt := 26) (by decide +kernel) (by decide +kernel) ?_
  exact hB26 _ _ _ h
def wc_X3_fillSigns_71 (B14 : Int32 → Int32 → tq_S → Prop) (B26 : Int32 → Int32 → tq_S → Prop) (Q : tq_O → tq_S → Prop) (a2 : Int64) (a4 : Int64) (a6 : Int64) (a8 : Int32) (a9 : Int32) (a10 : Int32) (s0 : Int64) (z : tq_S) : Prop := wm_X3_setSign a4 a8 (a10 - (1 : Int32)) a9 (1 : Int64) z (tq_wv fun z101 => wm_X3_setSign a4 a8 (a10 + (1 : Int32)) a9 (1 : Int64) z101 (tq_wv fun z102 => wm_X3_setSign a4 a8 a10 (a9 - (1 : Int32)) s0 z102 (tq_wv fun z103 => wm_X3_setSign a4 a8 a10 (a9 + (1 : Int32)) s0 z103 (tq_wv fun z104 => ∀ v105 : Int32, v105 = a8 + (1 : Int32) → wc_X3_fillSigns_142 B14 B26 Q a2 a4 a6 v105 a9 a10 z104))))
theorem ac_X3_fillSigns_71 {K : Nat × (Nat → Int32)} {x : Nat} {Q : tq_O → tq_S → Prop} {B14 : Int32 → Int32 → tq_S → Prop} {B26 : Int32 → Int32 → tq_S → Prop} {a2 : Int64} {a4 : Int64} {a6 : Int64} {a8 : Int32} {a9 : Int32} {a10 : Int32} {s0 : Int64} {z : tq_S} (hB14 : ∀ (b8 : Int32) (b9 : Int32) (z : tq_S), B14 b8 b9 z → tq_T K 2 x mm_X3_fillSigns 14 [.ref 16, .ref 1, .long a2, .null, .long a4, .null, .long a6, .null, .int b8, .int b9, .null, .null, .null] [] z Q) (hB26 : ∀ (b8 : Int32) (b10 : Int32) (z : tq_S), B26 b8 b10 z → tq_T K 2 x mm_X3_fillSigns 26 [.ref 16, .ref 1, .long a2, .null, .long a4, .null, .long a6, .null, .int b8, .int a9, .int b10, .null, .null] [] z Q) (h : wc_X3_fillSigns_71 B14 B26 Q a2 a4 a6 a8 a9 a10 s0 z) : tq_T K 2 x mm_X3_fillSigns 71 [.ref 16, .ref 1, .long a2, .null, .long a4, .null, .long a6, .null, .int a8, .int a9, .int a10, .null, .null] [.long s0] z Q := by
  unfold wc_X3_fillSigns_71 at h
  refine tq_s_lstore (i := 11) (L9 := [.ref 16, .ref 1, .long a2, .null, .long a4, .null, .long a6, .null, .int a8, .int a9, .int a10, .long s0, .null]) (by decide +kernel) (by decide) rfl ?_
  refine tq_s_aload_n (kk := 0) (by decide +kernel) rfl ?_
  refine tq_s_aload_n (kk := 1) (by decide +kernel) rfl ?_
  refine tq_s_lload (i := 4) (by decide +kernel) rfl ?_
  refine tq_s_iload (i := 8) (by decide +kernel) rfl ?_
  refine tq_s_iload (i := 10) (by decide +kernel) rfl ?_
  refine tq_k_ic (n := 1) (v := (1 : Int32)) (by decide +kernel) kc_1 ?_
  refine tq_s_isub (by decide +kernel) ?_
  refine tq_s_iload (i := 9) (by decide +kernel) rfl ?_
  refine tq_k_lc (n := 1) (v := (1 : Int64)) (by decide +kernel) (by decide +kernel) ?_
  refine tq_callV (as := [.ref 1, .long a4, .int a8, .int (a10 - (1 : Int32)), .int a9, .long (1 : Int64)]) (st := []) (d1 := 1) (x1 := 0) (x2 := x) (by decide +kernel) ln_3_88 mf_X3_setSign rfl sh_16 rfl (by decide) np_X3_setSign rfl (Nat.le_of_ble_eq_true rfl) (by decide) (Nat.zero_add _).symm (tq_M_mono (am_X3_setSign h) ?_)
  refine tq_wv_e (fun z101 h => ?_)
  refine tq_s_aload_n (kk := 0) (by decide +kernel) rfl ?_
  refine tq_s_aload_n (kk := 1) (by decide +kernel) rfl ?_
  refine tq_s_lload (i := 4) (by decide +kernel) rfl ?_
  refine tq_s_iload (i := 8) (by decide +kernel) rfl ?_
  refine tq_s_iload (i := 10) (by decide +kernel) rfl ?_
  refine tq_k_ic (n := 1) (v := (1 : Int32)) (by decide +kernel) kc_1 ?_
  refine tq_s_iadd (by decide +kernel) ?_
  refine tq_s_iload (i := 9) (by decide +kernel) rfl ?_
  refine tq_k_lc (n := 1) (v := (1 : Int64)) (by decide +kernel) (by decide +kernel) ?_
  refine tq_callV (as := [.ref 1, .long a4, .int a8, .int (a10 + (1 : Int32)), .int a9, .long (1 : Int64)]) (st := []) (d1 := 1) (x1 := 0) (x2 := x) (by decide +kernel) ln_3_88 mf_X3_setSign rfl sh_16 rfl (by decide) np_X3_setSign rfl (Nat.le_of_ble_eq_true rfl) (by decide) (Nat.zero_add _).symm (tq_M_mono (am_X3_setSign h) ?_)
  refine tq_wv_e (fun z102 h => ?_)
  refine tq_s_aload_n (kk := 0) (by decide +kernel) rfl ?_
  refine tq_s_aload_n (kk := 1) (by decide +kernel) rfl ?_
  refine tq_s_lload (i := 4) (by decide +kernel) rfl ?_
  refine tq_s_iload (i := 8) (by decide +kernel) rfl ?_
  refine tq_s_iload (i := 10) (by decide +kernel) rfl ?_
  refine tq_s_iload (i := 9) (by decide +kernel) rfl ?_
  refine tq_k_ic (n := 1) (v := (1 : Int32)) (by decide +kernel) kc_1 ?_
  refine tq_s_isub (by decide +kernel) ?_
  refine tq_s_lload (i := 11) (by decide +kernel) rfl ?_
  refine tq_callV (as := [.ref 1, .long a4, .int a8, .int a10, .int (a9 - (1 : Int32)), .long s0]) (st := []) (d1 := 1) (x1 := 0) (x2 := x) (by decide +kernel) ln_3_88 mf_X3_setSign rfl sh_16 rfl (by decide) np_X3_setSign rfl (Nat.le_of_ble_eq_true rfl) (by decide) (Nat.zero_add _).symm (tq_M_mono (am_X3_setSign h) ?_)
  refine tq_wv_e (fun z103 h => ?_)
  refine tq_s_aload_n (kk := 0) (by decide +kernel) rfl ?_
  refine tq_s_aload_n (kk := 1) (by decide +kernel) rfl ?_
  refine tq_s_lload (i := 4) (by decide +kernel) rfl ?_
  refine tq_s_iload (i := 8) (by decide +kernel) rfl ?_
  refine tq_s_iload (i := 10) (by decide +kernel) rfl ?_
  refine tq_s_iload (i := 9) (by decide +kernel) rfl ?_
  refine tq_k_ic (n := 1) (v := (1 : Int32)) (by decide +kernel) kc_1 ?_
  refine tq_s_iadd (by decide +kernel) ?_
  refine tq_s_lload (i := 11) (by decide +kernel) rfl ?_
  refine tq_callV (as := [.ref 1, .long a4, .int a8, .int a10, .int (a9 + (1 : Int32)), .long s0]) (st := []) (d1 := 1) (x1 := 0) (x2 := x) (by decide +kernel) ln_3_88 mf_X3_setSign rfl sh_16 rfl (by decide) np_X3_setSign rfl (Nat.le_of_ble_eq_true rfl) (by decide) (Nat.zero_add _).symm (tq_M_mono (am_X3_setSign h) ?_)
  refine tq_wv_e (fun z104 h => ?_)
  refine tq_g_iinc (i := 8) (fun v105 => [.ref 16, .ref 1, .long a2, .null, .long a4, .null, .long a6, .null, .int v105, .int a9, .int a10, .long s0, .null]) (by decide +kernel) rfl (1 : Int32) kc_1 (fun _ => rfl) (fun v105 ev105 => ?_)
  replace h := h v105 ev105
  exact tq_to (tq_lk1 (tq_lk1 (tq_lk1 (tq_lk1 (tq_lk1 (tq_lk1 (tq_lk1 (tq_lk1 (tq_lk1 (tq_lk1 (tq_lk1 (tq_ld1 (tq_lk1 tq_l0))))))))))))) (ac_X3_fillSigns_142 hB14 hB26 h)
def wc_X3_fillSigns_148 (B14 : Int32 → Int32 → tq_S → Prop) (Q : tq_O → tq_S → Prop) (a2 : Int64) (a4 : Int64) (a6 : Int64) (a8 : Int32) (a9 : Int32) (z : tq_S) : Prop := ∀ v101 : Int32, v101 = a9 + (1 : Int32) → B14 a8 v101 z
theorem ac_X3_fillSigns_148 {K : Nat × (Nat → Int32)} {x : Nat} {Q : tq_O → tq_S → Prop} {B14 : Int32 → Int32 → tq_S → Prop} {a2 : Int64} {a4 : Int64} {a6 : Int64} {a8 : Int32} {a9 : Int32} {z : tq_S} (hB14 : ∀ (b8 : Int32) (b9 : Int32) (z : tq_S), B14 b8 b9 z → tq_T K 2 x mm_X3_fillSigns 14 [.ref 16, .ref 1, .long a2, .null, .long a4, .null, .long a6, .null, .int b8, .int b9, .null, .null, .null] [] z Q) (h : wc_X3_fillSigns_148 B14 Q a2 a4 a6 a8 a9 z) : tq_T K 2 x mm_X3_fillSigns 148 [.ref 16, .ref 1, .long a2, .null, .long a4, .null, .long a6, .null, .int a8, .int a9, .null, .null, .null] [] z Q := by
  unfold wc_X3_fillSigns_148 at h
  refine tq_g_iinc (i := 9) (fun v101 => [.ref 16, .ref 1, .long a2, .null, .long a4, .null, .long a6, .null, .int a8, .int v101, .null, .null, .null]) (by decide +kernel) rfl (1 : Int32) kc_1 (fun _ => rfl) (fun v101 ev101 => ?_)
  replace h := h v101 ev101
  refine tq_s_goto (off := -137) (tgt := 14) (by decide +kernel) (by decide +kernel) ?_
  exact hB14 _ _ _ h
def wb_X3_fillSigns_26 (B14 : Int32 → Int32 → tq_S → Prop) (B26 : Int32 → Int32 → tq_S → Prop) (Q : tq_O → tq_S → Prop) (a2 : Int64) (a4 : Int64) (a6 : Int64) (a8 : Int32) (a9 : Int32) (a10 : Int32) (z : tq_S) : Prop := (((tq_fi z 64) ≤ a10 → wc_X3_fillSigns_148 B14 Q a2 a4 a6 a8 a9 z) ∧ (¬ (tq_fi z 64) ≤ a10 → wm_X1_bit a10 a9 z (tq_wl fun r102 z101 => (((a2 &&& r102) = (0 : Int64) → wc_X3_fillSigns_142 B14 B26 Q a2 a4 a6 a8 a9 a10 z101) ∧ (¬ (a2 &&& r102) = (0 : Int64) → (((32 : Int32) ≤ a8 → wc_X3_fillSigns_142 B14 B26 Q a2 a4 a6 a8 a9 a10 z101) ∧ (¬ (32 : Int32) ≤ a8 → ((¬ (a10 - a10 / (2 : Int32) * (2 : Int32)) = 0 → wc_X3_fillSigns_71 B14 B26 Q a2 a4 a6 a8 a9 a10 (a6 - (1 : Int64)) z101) ∧ ((a10 - a10 / (2 : Int32) * (2 : Int32)) = 0 → wc_X3_fillSigns_71 B14 B26 Q a2 a4 a6 a8 a9 a10 (1 : Int64) z101)))))))))
def wc_X3_fillSigns_26 (B14 : Int32 → Int32 → tq_S → Prop) (Q : tq_O → tq_S → Prop) (a2 : Int64) (a4 : Int64) (a6 : Int64) (a8 : Int32) (a9 : Int32) (a10 : Int32) (z : tq_S) : Prop := tq_lp (σ := Int32 × Int32 × tq_S) (fun B s => wb_X3_fillSigns_26 B14 (fun b8 b10 z => B (b8, b10, z)) Q a2 a4 a6 s.1 a9 s.2.1 s.2.2) (a8, a10, z)
theorem ab_X3_fillSigns_26 {K : Nat × (Nat → Int32)} {x : Nat} {Q : tq_O → tq_S → Prop} {B14 : Int32 → Int32 → tq_S → Prop} {B26 : Int32 → Int32 → tq_S → Prop} {a2 : Int64} {a4 : Int64} {a6 : Int64} {a8 : Int32} {a9 : Int32} {a10 : Int32} {z : tq_S} (hB14 : ∀ (b8 : Int32) (b9 : Int32) (z : tq_S), B14 b8 b9 z → tq_T K 2 x mm_X3_fillSigns 14 [.ref 16, .ref 1, .long a2, .null, .long a4, .null, .long a6, .null, .int b8, .int b9, .null, .null, .null] [] z Q) (hB26 : ∀ (b8 : Int32) (b10 : Int32) (z : tq_S), B26 b8 b10 z → tq_T K 2 x mm_X3_fillSigns 26 [.ref 16, .ref 1, .long a2, .null, .long a4, .null, .long a6, .null, .int b8, .int a9, .int b10, .null, .null] [] z Q) (h : wb_X3_fillSigns_26 B14 B26 Q a2 a4 a6 a8 a9 a10 z) : tq_T K 2 x mm_X3_fillSigns 26 [.ref 16, .ref 1, .long a2, .null, .long a4, .null, .long a6, .null, .int a8, .int a9, .int a10, .null, .null] [] z Q := by
  unfold wb_X3_fillSigns_26 at h
  refine tq_s_iload (i := 10) (by decide +kernel) rfl ?_
  refine tq_s_aload_n (kk := 1) (by decide +kernel) rfl ?_
  refine fg_3_81_1 rfl (by decide +kernel) ?_
  refine tq_icmp_ge (off := 116) (tgt := 148) (by decide +kernel) (by decide +kernel) (fun hc => ?_) (fun hc => ?_)
  · replace h := h.1 hc
    exact tq_to (tq_lk1 (tq_lk1 (tq_lk1 (tq_lk1 (tq_lk1 (tq_lk1 (tq_lk1 (tq_lk1 (tq_lk1 (tq_lk1 (tq_ld1 (tq_lk1 (tq_lk1 tq_l0))))))))))))) (ac_X3_fillSigns_148 hB14 h)
  · replace h := h.2 hc
    refine tq_s_lload_n (kk := 2) (by decide +kernel) rfl ?_
    refine tq_s_iload (i := 10) (by decide +kernel) rfl ?_
    refine tq_s_iload (i := 9) (by decide +kernel) rfl ?_
    refine tq_callSN (as := [.int a10, .int a9]) (st := [.long a2]) (d1 := 0) (x1 := 0) (x2 := x) (by decide +kernel) ln_3_84 mf_X1_bit rfl (by decide) np_X1_bit rfl (Nat.le_of_ble_eq_true rfl) (by decide) (Nat.zero_add _).symm (tq_M_mono (am_X1_bit h) ?_)
    refine tq_wl_e (fun r102 z101 h => ?_)
    refine tq_s_land (by decide +kernel) ?_
    refine tq_k_lc (n := 0) (v := (0 : Int64)) (by decide +kernel) (by decide +kernel) ?_
    refine tq_lcmp_eq (off := 96) (tgt := 142) (by decide +kernel) (by decide +kernel) (by decide +kernel) (fun hc => ?_) (fun hc => ?_)
    · replace h := h.1 hc
      exact ac_X3_fillSigns_142 hB14 hB26 h
    · replace h := h.2 hc
      refine tq_s_iload (i := 8) (by decide +kernel) rfl ?_
      refine tq_k_bi (n := 32) (v := (32 : Int32)) (by decide +kernel) kb_32 ?_
      refine tq_icmp_ge (off := 89) (tgt := 142) (by decide +kernel) (by decide +kernel) (fun hc => ?_) (fun hc => ?_)
      · replace h := h.1 hc
        exact ac_X3_fillSigns_142 hB14 hB26 h
      · replace h := h.2 hc
        refine tq_s_iload (i := 10) (by decide +kernel) rfl ?_
        refine tq_k_ic (n := 2) (v := (2 : Int32)) (by decide +kernel) kc_2 ?_
        refine tq_s_irem (by decide +kernel) (by decide +kernel) ?_
        refine tq_if_ne (off := 7) (tgt := 67) (by decide +kernel) (by decide +kernel) (fun hc => ?_) (fun hc => ?_)
        · replace h := h.1 hc
          refine tq_s_lload (i := 6) (by decide +kernel) rfl ?_
          refine tq_k_lc (n := 1) (v := (1 : Int64)) (by decide +kernel) (by decide +kernel) ?_
          refine tq_s_lsub (by decide +kernel) ?_
          exact ac_X3_fillSigns_71 hB14 hB26 h
        · replace h := h.2 hc
          refine tq_k_lc (n := 1) (v := (1 : Int64)) (by decide +kernel) (by decide +kernel) ?_
          refine tq_s_goto (off := 7) (tgt := 71) (by decide +kernel) (by decide +kernel) ?_
          exact ac_X3_fillSigns_71 hB14 hB26 h
theorem ac_X3_fillSigns_26 {K : Nat × (Nat → Int32)} {x : Nat} {Q : tq_O → tq_S → Prop} {B14 : Int32 → Int32 → tq_S → Prop} {a2 : Int64} {a4 : Int64} {a6 : Int64} {a8 : Int32} {a9 : Int32} {a10 : Int32} {z : tq_S} (hB14 : ∀ (b8 : Int32) (b9 : Int32) (z : tq_S), B14 b8 b9 z → tq_T K 2 x mm_X3_fillSigns 14 [.ref 16, .ref 1, .long a2, .null, .long a4, .null, .long a6, .null, .int b8, .int b9, .null, .null, .null] [] z Q) (h : wc_X3_fillSigns_26 B14 Q a2 a4 a6 a8 a9 a10 z) : tq_T K 2 x mm_X3_fillSigns 26 [.ref 16, .ref 1, .long a2, .null, .long a4, .null, .long a6, .null, .int a8, .int a9, .int a10, .null, .null] [] z Q :=
  tq_lp_T (σ := Int32 × Int32 × tq_S) (s := (a8, a10, z)) (G := fun s => tq_T K 2 x mm_X3_fillSigns 26 [.ref 16, .ref 1, .long a2, .null, .long a4, .null, .long a6, .null, .int s.1, .int a9, .int s.2.1, .null, .null] [] s.2.2 Q) (fun B hB s h => ab_X3_fillSigns_26 hB14 (fun b8 b10 z h => hB (b8, b10, z) h) h) h
def wb_X3_fillSigns_14 (B14 : Int32 → Int32 → tq_S → Prop) (Q : tq_O → tq_S → Prop) (a2 : Int64) (a4 : Int64) (a6 : Int64) (a8 : Int32) (a9 : Int32) (z : tq_S) : Prop := (((tq_fi z 65) ≤ a9 → Q (.inl none) z) ∧ (¬ (tq_fi z 65) ≤ a9 → wc_X3_fillSigns_26 B14 Q a2 a4 a6 a8 a9 (0 : Int32) z))
def wc_X3_fillSigns_14 (Q : tq_O → tq_S → Prop) (a2 : Int64) (a4 : Int64) (a6 : Int64) (a8 : Int32) (a9 : Int32) (z : tq_S) : Prop := tq_lp (σ := Int32 × Int32 × tq_S) (fun B s => wb_X3_fillSigns_14 (fun b8 b9 z => B (b8, b9, z)) Q a2 a4 a6 s.1 s.2.1 s.2.2) (a8, a9, z)
theorem ab_X3_fillSigns_14 {K : Nat × (Nat → Int32)} {x : Nat} {Q : tq_O → tq_S → Prop} {B14 : Int32 → Int32 → tq_S → Prop} {a2 : Int64} {a4 : Int64} {a6 : Int64} {a8 : Int32} {a9 : Int32} {z : tq_S} (hB14 : ∀ (b8 : Int32) (b9 : Int32) (z : tq_S), B14 b8 b9 z → tq_T K 2 x mm_X3_fillSigns 14 [.ref 16, .ref 1, .long a2, .null, .long a4, .null, .long a6, .null, .int b8, .int b9, .null, .null, .null] [] z Q) (h : wb_X3_fillSigns_14 B14 Q a2 a4 a6 a8 a9 z) : tq_T K 2 x mm_X3_fillSigns 14 [.ref 16, .ref 1, .long a2, .null, .long a4, .null, .long a6, .null, .int a8, .int a9, .null, .null, .null] [] z Q := by
  unfold wb_X3_fillSigns_14 at h
  refine tq_s_iload (i := 9) (by decide +kernel) rfl ?_
  refine tq_s_aload_n (kk := 1) (by decide +kernel) rfl ?_
  refine fg_3_77_1 rfl (by decide +kernel) ?_
  refine tq_icmp_ge (off := 134) (tgt := 154) (by decide +kernel) (by decide +kernel) (fun hc => ?_) (fun hc => ?_)
  · replace h := h.1 hc
    exact tq_ret_v (st := []) (by decide +kernel) rfl h
  · replace h := h.2 hc
    refine tq_k_ic (n := 0) (v := (0 : Int32)) (by decide +kernel) kc_0 ?_
    refine tq_s_istore (i := 10) (L9 := [.ref 16, .ref 1, .long a2, .null, .long a4, .null, .long a6, .null, .int a8, .int a9, .int (0 : Int32), .null, .null]) (by decide +kernel) (by decide) rfl ?_
    exact ac_X3_fillSigns_26 hB14 h
theorem ac_X3_fillSigns_14 {K : Nat × (Nat → Int32)} {x : Nat} {Q : tq_O → tq_S → Prop} {a2 : Int64} {a4 : Int64} {a6 : Int64} {a8 : Int32} {a9 : Int32} {z : tq_S} (h : wc_X3_fillSigns_14 Q a2 a4 a6 a8 a9 z) : tq_T K 2 x mm_X3_fillSigns 14 [.ref 16, .ref 1, .long a2, .null, .long a4, .null, .long a6, .null, .int a8, .int a9, .null, .null, .null] [] z Q :=
  tq_lp_T (σ := Int32 × Int32 × tq_S) (s := (a8, a9, z)) (G := fun s => tq_T K 2 x mm_X3_fillSigns 14 [.ref 16, .ref 1, .long a2, .null, .long a4, .null, .long a6, .null, .int s.1, .int s.2.1, .null, .null, .null] [] s.2.2 Q) (fun B hB s h => ab_X3_fillSigns_14 (fun b8 b9 z h => hB (b8, b9, z) h) h) h
def wm_X3_fillSigns (a2 : Int64) (a4 : Int64) (a6 : Int64) (z : tq_S) (Q : tq_O → tq_S → Prop) : Prop := wm_J7_fill_d0a16_r1 (0 : Int64) z (tq_wv fun z1 => wc_X3_fillSigns_14 Q a2 a4 a6 (0 : Int32) (0 : Int32) z1)
theorem am_X3_fillSigns {K : Nat × (Nat → Int32)} {x : Nat} {z : tq_S} {Q : tq_O → tq_S → Prop} {a2 : Int64} {a4 : Int64} {a6 : Int64} (h : wm_X3_fillSigns a2 a4 a6 z Q) : tq_M K 2 x mm_X3_fillSigns [.ref 16, .ref 1, .long a2, .long a4, .long a6] z Q := by
  unfold wm_X3_fillSigns at h
  refine tq_enter (L := [.ref 16, .ref 1, .long a2, .null, .long a4, .null, .long a6, .null, .null, .null, .null, .null, .null]) mf_X3_fillSigns.1 rfl rfl (Nat.le_of_ble_eq_true rfl) ?_
  refine tq_s_aload_n (kk := 0) (by decide +kernel) rfl ?_
  refine fg_3_9_16 rfl (by decide +kernel) ?_
  refine tq_k_lc (n := 0) (v := (0 : Int64)) (by decide +kernel) (by decide +kernel) ?_
  refine tq_callS (as := [.ref 17, .long (0 : Int64)]) (st := []) (d1 := 0) (x1 := 0) (x2 := x) (by decide +kernel) ln_3_71 mf_J7_fill_d0a16 rfl (by decide) np_J7_fill_d0a16 rfl (Nat.le_of_ble_eq_true rfl) (by decide) (Nat.zero_add _).symm (tq_M_mono (am_J7_fill_d0a16_r1 h) ?_)
  refine tq_wv_e (fun z1 h => ?_)
  refine tq_k_ic (n := 0) (v := (0 : Int32)) (by decide +kernel) kc_0 ?_
  refine tq_s_istore (i := 8) (L9 := [.ref 16, .ref 1, .long a2, .null, .long a4, .null, .long a6, .null, .int (0 : Int32), .null, .null, .null, .null]) (by decide +kernel) (by decide) rfl ?_
  refine tq_k_ic (n := 0) (v := (0 : Int32)) (by decide +kernel) kc_0 ?_
  refine tq_s_istore (i := 9) (L9 := [.ref 16, .ref 1, .long a2, .null, .long a4, .null, .long a6, .null, .int (0 : Int32), .int (0 : Int32), .null, .null, .null]) (by decide +kernel) (by decide) rfl ?_
  exact ac_X3_fillSigns_14 h
def wb_X3_pivotOf_2 (B2 : Int32 → tq_S → Prop) (Q : tq_O → tq_S → Prop) (a1 : Int32) (a2 : Int32) (a3 : Int32) (z : tq_S) : Prop := ((a2 ≤ a3 → Q (.inl (some (.int (-1 : Int32)))) z) ∧ (¬ a2 ≤ a3 → vp_in ((a3 * (32 : Int32)) + a1) 1024 ∧ (((tq_al z 17 (Int32.toNatClampNeg ((a3 * (32 : Int32)) + a1))) = (0 : Int64) → ∀ v101 : Int32, v101 = a3 + (1 : Int32) → B2 v101 z) ∧ (¬ (tq_al z 17 (Int32.toNatClampNeg ((a3 * (32 : Int32)) + a1))) = (0 : Int64) → Q (.inl (some (.int a3))) z))))
def wc_X3_pivotOf_2 (Q : tq_O → tq_S → Prop) (a1 : Int32) (a2 : Int32) (a3 : Int32) (z : tq_S) : Prop := tq_lp (σ := Int32 × tq_S) (fun B s => wb_X3_pivotOf_2 (fun b3 z => B (b3, z)) Q a1 a2 s.1 s.2) (a3, z)
theorem ab_X3_pivotOf_2 {K : Nat × (Nat → Int32)} {x : Nat} {Q : tq_O → tq_S → Prop} {B2 : Int32 → tq_S → Prop} {a1 : Int32} {a2 : Int32} {a3 : Int32} {z : tq_S} (hB2 : ∀ (b3 : Int32) (z : tq_S), B2 b3 z → tq_T K 0 x mm_X3_pivotOf 2 [.ref 16, .int a1, .int a2, .int b3] [] z Q) (h : wb_X3_pivotOf_2 B2 Q a1 a2 a3 z) : tq_T K 0 x mm_X3_pivotOf 2 [.ref 16, .int a1, .int a2, .int a3] [] z Q := by
  unfold wb_X3_pivotOf_2 at h
  refine tq_s_iload_n (kk := 3) (by decide +kernel) rfl ?_
  refine tq_s_iload_n (kk := 2) (by decide +kernel) rfl ?_
  refine tq_icmp_ge (off := 27) (tgt := 31) (by decide +kernel) (by decide +kernel) (fun hc => ?_) (fun hc => ?_)
  · replace h := h.1 hc
    refine tq_k_ic (n := -1) (v := (-1 : Int32)) (by decide +kernel) kc_m1 ?_
    exact tq_ret_i (st := []) (by decide +kernel) rfl h
  · replace h := h.2 hc
    refine tq_s_aload_n (kk := 0) (by decide +kernel) rfl ?_
    refine fg_3_9_16 rfl (by decide +kernel) ?_
    refine tq_s_iload_n (kk := 3) (by decide +kernel) rfl ?_
    refine tq_k_bi (n := 32) (v := (32 : Int32)) (by decide +kernel) kb_32 ?_
    refine tq_s_imul (by decide +kernel) ?_
    refine tq_s_iload_n (kk := 1) (by decide +kernel) rfl ?_
    refine tq_s_iadd (by decide +kernel) ?_
    refine tq_s_lald (by decide +kernel) sh_17 h.1 ?_
    replace h := h.2
    refine tq_k_lc (n := 0) (v := (0 : Int64)) (by decide +kernel) (by decide +kernel) ?_
    refine tq_lcmp_eq (off := 5) (tgt := 25) (by decide +kernel) (by decide +kernel) (by decide +kernel) (fun hc => ?_) (fun hc => ?_)
    · replace h := h.1 hc
      refine tq_g_iinc (i := 3) (fun v101 => [.ref 16, .int a1, .int a2, .int v101]) (by decide +kernel) rfl (1 : Int32) kc_1 (fun _ => rfl) (fun v101 ev101 => ?_)
      replace h := h v101 ev101
      refine tq_s_goto (off := -26) (tgt := 2) (by decide +kernel) (by decide +kernel) ?_
      exact hB2 _ _ h
    · replace h := h.2 hc
      refine tq_s_iload_n (kk := 3) (by decide +kernel) rfl ?_
      exact tq_ret_i (st := []) (by decide +kernel) rfl h
theorem ac_X3_pivotOf_2 {K : Nat × (Nat → Int32)} {x : Nat} {Q : tq_O → tq_S → Prop} {a1 : Int32} {a2 : Int32} {a3 : Int32} {z : tq_S} (h : wc_X3_pivotOf_2 Q a1 a2 a3 z) : tq_T K 0 x mm_X3_pivotOf 2 [.ref 16, .int a1, .int a2, .int a3] [] z Q :=
  tq_lp_T (σ := Int32 × tq_S) (s := (a3, z)) (G := fun s => tq_T K 0 x mm_X3_pivotOf 2 [.ref 16, .int a1, .int a2, .int s.1] [] s.2 Q) (fun B hB s h => ab_X3_pivotOf_2 (fun b3 z h => hB (b3, z) h) h) h
def wm_X3_pivotOf (a1 : Int32) (a2 : Int32) (z : tq_S) (Q : tq_O → tq_S → Prop) : Prop := wc_X3_pivotOf_2 Q a1 a2 a1 z
theorem am_X3_pivotOf {K : Nat × (Nat → Int32)} {x : Nat} {z : tq_S} {Q : tq_O → tq_S → Prop} {a1 : Int32} {a2 : Int32} (h : wm_X3_pivotOf a1 a2 z Q) : tq_M K 0 x mm_X3_pivotOf [.ref 16, .int a1, .int a2] z Q := by
  unfold wm_X3_pivotOf at h
  refine tq_enter (L := [.ref 16, .int a1, .int a2, .null]) mf_X3_pivotOf.1 rfl rfl (Nat.le_of_ble_eq_true rfl) ?_
  refine tq_s_iload_n (kk := 1) (by decide +kernel) rfl ?_
  refine tq_s_istore_n (kk := 3) (L9 := [.ref 16, .int a1, .int a2, .int a1]) (by decide +kernel) (by decide) rfl ?_
  exact ac_X3_pivotOf_2 h
def wb_X3_swapRows_3 (B3 : Int32 → tq_S → Prop) (Q : tq_O → tq_S → Prop) (a1 : Int32) (a2 : Int32) (a3 : Int32) (a4 : Int32) (z : tq_S) : Prop := ((a3 ≤ a4 → Q (.inl none) z) ∧ (¬ a3 ≤ a4 → vp_in ((a1 * (32 : Int32)) + a4) 1024 ∧ ∀ v101 : Int64, v101 = (tq_al z 17 (Int32.toNatClampNeg ((a1 * (32 : Int32)) + a4))) → vp_in ((a2 * (32 : Int32)) + a4) 1024 ∧ vp_in ((a1 * (32 : Int32)) + a4) 1024 ∧ ∀ z102 : tq_S, z102 = tq_sal z 17 (vp_updL (tq_al z 17) (Int32.toNatClampNeg ((a1 * (32 : Int32)) + a4)) (tq_al z 17 (Int32.toNatClampNeg ((a2 * (32 : Int32)) + a4)))) → vp_in ((a2 * (32 : Int32)) + a4) 1024 ∧ ∀ z103 : tq_S, z103 = tq_sal z102 17 (vp_updL (tq_al z102 17) (Int32.toNatClampNeg ((a2 * (32 : Int32)) + a4)) v101) → ∀ v104 : Int32, v104 = a4 + (1 : Int32) → B3 v104 z103))
def wc_X3_swapRows_3 (Q : tq_O → tq_S → Prop) (a1 : Int32) (a2 : Int32) (a3 : Int32) (a4 : Int32) (z : tq_S) : Prop := tq_lp (σ := Int32 × tq_S) (fun B s => wb_X3_swapRows_3 (fun b4 z => B (b4, z)) Q a1 a2 a3 s.1 s.2) (a4, z)
theorem ab_X3_swapRows_3 {K : Nat × (Nat → Int32)} {x : Nat} {Q : tq_O → tq_S → Prop} {B3 : Int32 → tq_S → Prop} {a1 : Int32} {a2 : Int32} {a3 : Int32} {a4 : Int32} {z : tq_S} (hB3 : ∀ (b4 : Int32) (z : tq_S), B3 b4 z → tq_T K 0 x mm_X3_swapRows 3 [.ref 16, .int a1, .int a2, .int a3, .int b4, .null, .null] [] z Q) (h : wb_X3_swapRows_3 B3 Q a1 a2 a3 a4 z) : tq_T K 0 x mm_X3_swapRows 3 [.ref 16, .int a1, .int a2, .int a3, .int a4, .null, .null] [] z Q := by
  unfold wb_X3_swapRows_3 at h
  refine tq_s_iload (i := 4) (by decide +kernel) rfl ?_
  refine tq_s_iload_n (kk := 3) (by decide +kernel) rfl ?_
  refine tq_icmp_ge (off := 61) (tgt := 67) (by decide +kernel) (by decide +kernel) (fun hc => ?_) (fun hc => ?_)
  · replace h := h.1 hc
    exact tq_ret_v (st := []) (by decide +kernel) rfl h
  · replace h := h.2 hc
    refine tq_s_aload_n (kk := 0) (by decide +kernel) rfl ?_
    refine fg_3_9_16 rfl (by decide +kernel) ?_
    refine tq_s_iload_n (kk := 1) (by decide +kernel) rfl ?_
    refine tq_k_bi (n := 32) (v := (32 : Int32)) (by decide +kernel) kb_32 ?_
    refine tq_s_imul (by decide +kernel) ?_
    refine tq_s_iload (i := 4) (by decide +kernel) rfl ?_
    refine tq_s_iadd (by decide +kernel) ?_
    refine tq_s_lald (by decide +kernel) sh_17 h.1 ?_
    replace h := h.2
    refine tq_g_lstore (i := 5) (fun v101 => [.ref 16, .int a1, .int a2, .int a3, .int a4, .long v101, .null]) (by decide +kernel) (by decide) (fun _ => rfl) (fun v101 ev101 => ?_)
    replace h := h v101 ev101
    refine tq_s_aload_n (kk := 0) (by decide +kernel) rfl ?_
    refine fg_3_9_16 rfl (by decide +kernel) ?_
    refine tq_s_iload_n (kk := 1) (by decide +kernel) rfl ?_
    refine tq_k_bi (n := 32) (v := (32 : Int32)) (by decide +kernel) kb_32 ?_
    refine tq_s_imul (by decide +kernel) ?_
    refine tq_s_iload (i := 4) (by decide +kernel) rfl ?_
    refine tq_s_iadd (by decide +kernel) ?_
    refine tq_s_aload_n (kk := 0) (by decide +kernel) rfl ?_
    refine fg_3_9_16 rfl (by decide +kernel) ?_
    refine tq_s_iload_n (kk := 2) (by decide +kernel) rfl ?_
    refine tq_k_bi (n := 32) (v := (32 : Int32)) (by decide +kernel) kb_32 ?_
    refine tq_s_imul (by decide +kernel) ?_
    refine tq_s_iload (i := 4) (by decide +kernel) rfl ?_
    refine tq_s_iadd (by decide +kernel) ?_
    refine tq_s_lald (by decide +kernel) sh_17 h.1 ?_
    replace h := h.2
    refine tq_g_last (by decide +kernel) sh_17 h.1 (fun z102 ez102 => ?_)
    replace h := h.2 z102 ez102
    refine tq_s_aload_n (kk := 0) (by decide +kernel) rfl ?_
    refine fg_3_9_16 rfl (by decide +kernel) ?_
    refine tq_s_iload_n (kk := 2) (by decide +kernel) rfl ?_
    refine tq_k_bi (n := 32) (v := (32 : Int32)) (by decide +kernel) kb_32 ?_
    refine tq_s_imul (by decide +kernel) ?_
    refine tq_s_iload (i := 4) (by decide +kernel) rfl ?_
    refine tq_s_iadd (by decide +kernel) ?_
    refine tq_s_lload (i := 5) (by decide +kernel) rfl ?_
    refine tq_g_last (by decide +kernel) sh_17 h.1 (fun z103 ez103 => ?_)
    replace h := h.2 z103 ez103
    refine tq_g_iinc (i := 4) (fun v104 => [.ref 16, .int a1, .int a2, .int a3, .int v104, .long v101, .null]) (by decide +kernel) rfl (1 : Int32) kc_1 (fun _ => rfl) (fun v104 ev104 => ?_)
    replace h := h v104 ev104
    refine tq_s_goto (off := -61) (tgt := 3) (by decide +kernel) (by decide +kernel) ?_
    exact tq_to (tq_lk1 (tq_lk1 (tq_lk1 (tq_lk1 (tq_lk1 (tq_ld1 (tq_lk1 tq_l0))))))) (hB3 _ _ h)
theorem ac_X3_swapRows_3 {K : Nat × (Nat → Int32)} {x : Nat} {Q : tq_O → tq_S → Prop} {a1 : Int32} {a2 : Int32} {a3 : Int32} {a4 : Int32} {z : tq_S} (h : wc_X3_swapRows_3 Q a1 a2 a3 a4 z) : tq_T K 0 x mm_X3_swapRows 3 [.ref 16, .int a1, .int a2, .int a3, .int a4, .null, .null] [] z Q :=
  tq_lp_T (σ := Int32 × tq_S) (s := (a4, z)) (G := fun s => tq_T K 0 x mm_X3_swapRows 3 [.ref 16, .int a1, .int a2, .int a3, .int s.1, .null, .null] [] s.2 Q) (fun B hB s h => ab_X3_swapRows_3 (fun b4 z h => hB (b4, z) h) h) h
def wm_X3_swapRows (a1 : Int32) (a2 : Int32) (a3 : Int32) (z : tq_S) (Q : tq_O → tq_S → Prop) : Prop := wc_X3_swapRows_3 Q a1 a2 a3 (0 : Int32) z
theorem am_X3_swapRows {K : Nat × (Nat → Int32)} {x : Nat} {z : tq_S} {Q : tq_O → tq_S → Prop} {a1 : Int32} {a2 : Int32} {a3 : Int32} (h : wm_X3_swapRows a1 a2 a3 z Q) : tq_M K 0 x mm_X3_swapRows [.ref 16, .int a1, .int a2, .int a3] z Q := by
  unfold wm_X3_swapRows at h
  refine tq_enter (L := [.ref 16, .int a1, .int a2, .int a3, .null, .null, .null]) mf_X3_swapRows.1 rfl rfl (Nat.le_of_ble_eq_true rfl) ?_
  refine tq_k_ic (n := 0) (v := (0 : Int32)) (by decide +kernel) kc_0 ?_
  refine tq_s_istore (i := 4) (L9 := [.ref 16, .int a1, .int a2, .int a3, .int (0 : Int32), .null, .null]) (by decide +kernel) (by decide) rfl ?_
  exact ac_X3_swapRows_3 h
def wc_X3_power_40 (B12 : Int64 → Int64 → Int32 → tq_S → Prop) (Q : tq_O → tq_S → Prop) (a2 : Int64) (a4 : Int64) (a6 : Int64) (a8 : Int64) (a10 : Int32) (z : tq_S) : Prop := (¬ a4 = 0) ∧ ∀ v101 : Int64, v101 = ((a8 * a8) - (a8 * a8) / a4 * a4) → ∀ v102 : Int32, v102 = a10 + (1 : Int32) → B12 a6 v101 v102 z
theorem ac_X3_power_40 {K : Nat × (Nat → Int32)} {x : Nat} {Q : tq_O → tq_S → Prop} {B12 : Int64 → Int64 → Int32 → tq_S → Prop} {a2 : Int64} {a4 : Int64} {a6 : Int64} {a8 : Int64} {a10 : Int32} {z : tq_S} (hB12 : ∀ (b6 : Int64) (b8 : Int64) (b10 : Int32) (z : tq_S), B12 b6 b8 b10 z → tq_T K 0 x mm_X3_power 12 [.null, .null, .long a2, .null, .long a4, .null, .long b6, .null, .long b8, .null, .int b10] [] z Q) (h : wc_X3_power_40 B12 Q a2 a4 a6 a8 a10 z) : tq_T K 0 x mm_X3_power 40 [.null, .null, .long a2, .null, .long a4, .null, .long a6, .null, .long a8, .null, .int a10] [] z Q := by
  unfold wc_X3_power_40 at h
  refine tq_s_lload (i := 8) (by decide +kernel) rfl ?_
  refine tq_s_lload (i := 8) (by decide +kernel) rfl ?_
  refine tq_s_lmul (by decide +kernel) ?_
  refine tq_s_lload (i := 4) (by decide +kernel) rfl ?_
  refine tq_s_lrem (by decide +kernel) h.1 ?_
  replace h := h.2
  refine tq_g_lstore (i := 8) (fun v101 => [.null, .null, .long a2, .null, .long a4, .null, .long a6, .null, .long v101, .null, .int a10]) (by decide +kernel) (by decide) (fun _ => rfl) (fun v101 ev101 => ?_)
  replace h := h v101 ev101
  refine tq_g_iinc (i := 10) (fun v102 => [.null, .null, .long a2, .null, .long a4, .null, .long a6, .null, .long v101, .null, .int v102]) (by decide +kernel) rfl (1 : Int32) kc_1 (fun _ => rfl) (fun v102 ev102 => ?_)
  replace h := h v102 ev102
  refine tq_s_goto (off := -41) (tgt := 12) (by decide +kernel) (by decide +kernel) ?_
  exact hB12 _ _ _ _ h
def wb_X3_power_12 (B12 : Int64 → Int64 → Int32 → tq_S → Prop) (Q : tq_O → tq_S → Prop) (a2 : Int64) (a4 : Int64) (a6 : Int64) (a8 : Int64) (a10 : Int32) (z : tq_S) : Prop := (((32 : Int32) ≤ a10 → Q (.inl (some (.long a6))) z) ∧ (¬ (32 : Int32) ≤ a10 → (((((Int64.toUInt64 a2) >>> ((Int32.toInt64 a10).toUInt64 &&& Int64.toUInt64 63)).toInt64 &&& (1 : Int64)) = (0 : Int64) → wc_X3_power_40 B12 Q a2 a4 a6 a8 a10 z) ∧ (¬ (((Int64.toUInt64 a2) >>> ((Int32.toInt64 a10).toUInt64 &&& Int64.toUInt64 63)).toInt64 &&& (1 : Int64)) = (0 : Int64) → (¬ a4 = 0) ∧ ∀ v101 : Int64, v101 = ((a6 * a8) - (a6 * a8) / a4 * a4) → wc_X3_power_40 B12 Q a2 a4 v101 a8 a10 z))))
def wc_X3_power_12 (Q : tq_O → tq_S → Prop) (a2 : Int64) (a4 : Int64) (a6 : Int64) (a8 : Int64) (a10 : Int32) (z : tq_S) : Prop := tq_lp (σ := Int64 × Int64 × Int32 × tq_S) (fun B s => wb_X3_power_12 (fun b6 b8 b10 z => B (b6, b8, b10, z)) Q a2 a4 s.1 s.2.1 s.2.2.1 s.2.2.2) (a6, a8, a10, z)
theorem ab_X3_power_12 {K : Nat × (Nat → Int32)} {x : Nat} {Q : tq_O → tq_S → Prop} {B12 : Int64 → Int64 → Int32 → tq_S → Prop} {a2 : Int64} {a4 : Int64} {a6 : Int64} {a8 : Int64} {a10 : Int32} {z : tq_S} (hB12 : ∀ (b6 : Int64) (b8 : Int64) (b10 : Int32) (z : tq_S), B12 b6 b8 b10 z → tq_T K 0 x mm_X3_power 12 [.null, .null, .long a2, .null, .long a4, .null, .long b6, .null, .long b8, .null, .int b10] [] z Q) (h : wb_X3_power_12 B12 Q a2 a4 a6 a8 a10 z) : tq_T K 0 x mm_X3_power 12 [.null, .null, .long a2, .null, .long a4, .null, .long a6, .null, .long a8, .null, .int a10] [] z Q := by
  unfold wb_X3_power_12 at h
  refine tq_s_iload (i := 10) (by decide +kernel) rfl ?_
  refine tq_k_bi (n := 32) (v := (32 : Int32)) (by decide +kernel) kb_32 ?_
  refine tq_icmp_ge (off := 40) (tgt := 56) (by decide +kernel) (by decide +kernel) (fun hc => ?_) (fun hc => ?_)
  · replace h := h.1 hc
    refine tq_s_lload (i := 6) (by decide +kernel) rfl ?_
    exact tq_ret_l (st := []) (by decide +kernel) rfl h
  · replace h := h.2 hc
    refine tq_s_lload_n (kk := 2) (by decide +kernel) rfl ?_
    refine tq_s_iload (i := 10) (by decide +kernel) rfl ?_
    refine tq_s_lushr (by decide +kernel) ?_
    refine tq_k_lc (n := 1) (v := (1 : Int64)) (by decide +kernel) (by decide +kernel) ?_
    refine tq_s_land (by decide +kernel) ?_
    refine tq_k_lc (n := 0) (v := (0 : Int64)) (by decide +kernel) (by decide +kernel) ?_
    refine tq_lcmp_eq (off := 13) (tgt := 40) (by decide +kernel) (by decide +kernel) (by decide +kernel) (fun hc => ?_) (fun hc => ?_)
    · replace h := h.1 hc
      exact ac_X3_power_40 hB12 h
    · replace h := h.2 hc
      refine tq_s_lload (i := 6) (by decide +kernel) rfl ?_
      refine tq_s_lload (i := 8) (by decide +kernel) rfl ?_
      refine tq_s_lmul (by decide +kernel) ?_
      refine tq_s_lload (i := 4) (by decide +kernel) rfl ?_
      refine tq_s_lrem (by decide +kernel) h.1 ?_
      replace h := h.2
      refine tq_g_lstore (i := 6) (fun v101 => [.null, .null, .long a2, .null, .long a4, .null, .long v101, .null, .long a8, .null, .int a10]) (by decide +kernel) (by decide) (fun _ => rfl) (fun v101 ev101 => ?_)
      replace h := h v101 ev101
      exact ac_X3_power_40 hB12 h
theorem ac_X3_power_12 {K : Nat × (Nat → Int32)} {x : Nat} {Q : tq_O → tq_S → Prop} {a2 : Int64} {a4 : Int64} {a6 : Int64} {a8 : Int64} {a10 : Int32} {z : tq_S} (h : wc_X3_power_12 Q a2 a4 a6 a8 a10 z) : tq_T K 0 x mm_X3_power 12 [.null, .null, .long a2, .null, .long a4, .null, .long a6, .null, .long a8, .null, .int a10] [] z Q :=
  tq_lp_T (σ := Int64 × Int64 × Int32 × tq_S) (s := (a6, a8, a10, z)) (G := fun s => tq_T K 0 x mm_X3_power 12 [.null, .null, .long a2, .null, .long a4, .null, .long s.1, .null, .long s.2.1, .null, .int s.2.2.1] [] s.2.2.2 Q) (fun B hB s h => ab_X3_power_12 (fun b6 b8 b10 z h => hB (b6, b8, b10, z) h) h) h
def wm_X3_power (a0 : Int64) (a2 : Int64) (a4 : Int64) (z : tq_S) (Q : tq_O → tq_S → Prop) : Prop := (¬ a4 = 0) ∧ ∀ v1 : Int64, v1 = (a0 - a0 / a4 * a4) → wc_X3_power_12 Q a2 a4 (1 : Int64) v1 (0 : Int32) z
theorem am_X3_power {K : Nat × (Nat → Int32)} {x : Nat} {z : tq_S} {Q : tq_O → tq_S → Prop} {a0 : Int64} {a2 : Int64} {a4 : Int64} (h : wm_X3_power a0 a2 a4 z Q) : tq_M K 0 x mm_X3_power [.long a0, .long a2, .long a4] z Q := by
  unfold wm_X3_power at h
  refine tq_enter (L := [.long a0, .null, .long a2, .null, .long a4, .null, .null, .null, .null, .null, .null]) mf_X3_power.1 rfl rfl (Nat.le_of_ble_eq_true rfl) ?_
  refine tq_k_lc (n := 1) (v := (1 : Int64)) (by decide +kernel) (by decide +kernel) ?_
  refine tq_s_lstore (i := 6) (L9 := [.long a0, .null, .long a2, .null, .long a4, .null, .long (1 : Int64), .null, .null, .null, .null]) (by decide +kernel) (by decide) rfl ?_
  refine tq_s_lload_n (kk := 0) (by decide +kernel) rfl ?_
  refine tq_s_lload (i := 4) (by decide +kernel) rfl ?_
  refine tq_s_lrem (by decide +kernel) h.1 ?_
  replace h := h.2
  refine tq_g_lstore (i := 8) (fun v1 => [.long a0, .null, .long a2, .null, .long a4, .null, .long (1 : Int64), .null, .long v1, .null, .null]) (by decide +kernel) (by decide) (fun _ => rfl) (fun v1 ev1 => ?_)
  replace h := h v1 ev1
  refine tq_k_ic (n := 0) (v := (0 : Int32)) (by decide +kernel) kc_0 ?_
  refine tq_s_istore (i := 10) (L9 := [.long a0, .null, .long a2, .null, .long a4, .null, .long (1 : Int64), .null, .long v1, .null, .int (0 : Int32)]) (by decide +kernel) (by decide) rfl ?_
  exact tq_to (tq_ld1 (tq_lk1 (tq_lk1 (tq_lk1 (tq_lk1 (tq_lk1 (tq_lk1 (tq_lk1 (tq_lk1 (tq_lk1 (tq_lk1 tq_l0))))))))))) (ac_X3_power_12 h)
def wm_X3_inverse (a0 : Int64) (a2 : Int64) (z : tq_S) (Q : tq_O → tq_S → Prop) : Prop := wm_X3_power a0 (a2 - (2 : Int64)) a2 z (tq_wl fun r2 z1 => Q (.inl (some (.long r2))) z1)
theorem am_X3_inverse {K : Nat × (Nat → Int32)} {x : Nat} {z : tq_S} {Q : tq_O → tq_S → Prop} {a0 : Int64} {a2 : Int64} (h : wm_X3_inverse a0 a2 z Q) : tq_M K 1 x mm_X3_inverse [.long a0, .long a2] z Q := by
  unfold wm_X3_inverse at h
  refine tq_enter (L := [.long a0, .null, .long a2, .null]) mf_X3_inverse.1 rfl rfl (Nat.le_of_ble_eq_true rfl) ?_
  refine tq_s_lload_n (kk := 0) (by decide +kernel) rfl ?_
  refine tq_s_lload_n (kk := 2) (by decide +kernel) rfl ?_
  refine tq_s_ldc2 (i := 22) (v := (2 : Int64)) (by decide +kernel) (by decide +kernel) ?_
  refine tq_s_lsub (by decide +kernel) ?_
  refine tq_s_lload_n (kk := 2) (by decide +kernel) rfl ?_
  refine tq_callS (as := [.long a0, .long (a2 - (2 : Int64)), .long a2]) (st := []) (d1 := 0) (x1 := 0) (x2 := x) (by decide +kernel) ln_3_24 mf_X3_power rfl (by decide) np_X3_power rfl (Nat.le_of_ble_eq_true rfl) (by decide) (Nat.zero_add _).symm (tq_M_mono (am_X3_power h) ?_)
  refine tq_wl_e (fun r2 z1 h => ?_)
  exact tq_ret_l (st := []) (by decide +kernel) rfl h
def wm_J9_floorMod_f86c9 (a0 : Int64) (a2 : Int64) (z : tq_S) (Q : tq_O → tq_S → Prop) : Prop := (¬ a2 = 0) ∧ ∀ v1 : Int64, v1 = (a0 - a0 / a2 * a2) → (((0 : Int64) ≤ (a0 ^^^ a2) → Q (.inl (some (.long v1))) z) ∧ (¬ (0 : Int64) ≤ (a0 ^^^ a2) → ((v1 = (0 : Int64) → Q (.inl (some (.long v1))) z) ∧ (¬ v1 = (0 : Int64) → Q (.inl (some (.long (v1 + a2)))) z))))
theorem am_J9_floorMod_f86c9 {K : Nat × (Nat → Int32)} {x : Nat} {z : tq_S} {Q : tq_O → tq_S → Prop} {a0 : Int64} {a2 : Int64} (h : wm_J9_floorMod_f86c9 a0 a2 z Q) : tq_M K 0 x mm_J9_floorMod_f86c9 [.long a0, .long a2] z Q := by
  unfold wm_J9_floorMod_f86c9 at h
  refine tq_enter (L := [.long a0, .null, .long a2, .null, .null, .null]) mf_J9_floorMod_f86c9.1 rfl rfl (Nat.le_of_ble_eq_true rfl) ?_
  refine tq_s_lload_n (kk := 0) (by decide +kernel) rfl ?_
  refine tq_s_lload_n (kk := 2) (by decide +kernel) rfl ?_
  refine tq_s_lrem (by decide +kernel) h.1 ?_
  replace h := h.2
  refine tq_g_lstore (i := 4) (fun v1 => [.long a0, .null, .long a2, .null, .long v1, .null]) (by decide +kernel) (by decide) (fun _ => rfl) (fun v1 ev1 => ?_)
  replace h := h v1 ev1
  refine tq_s_lload_n (kk := 0) (by decide +kernel) rfl ?_
  refine tq_s_lload_n (kk := 2) (by decide +kernel) rfl ?_
  refine tq_s_lxor (by decide +kernel) ?_
  refine tq_k_lc (n := 0) (v := (0 : Int64)) (by decide +kernel) (by decide +kernel) ?_
  refine tq_lcmp_ge (off := 15) (tgt := 25) (by decide +kernel) (by decide +kernel) (by decide +kernel) (fun hc => ?_) (fun hc => ?_)
  · replace h := h.1 hc
    refine tq_s_lload (i := 4) (by decide +kernel) rfl ?_
    exact tq_ret_l (st := []) (by decide +kernel) rfl h
  · replace h := h.2 hc
    refine tq_s_lload (i := 4) (by decide +kernel) rfl ?_
    refine tq_k_lc (n := 0) (v := (0 : Int64)) (by decide +kernel) (by decide +kernel) ?_
    refine tq_lcmp_eq (off := 8) (tgt := 25) (by decide +kernel) (by decide +kernel) (by decide +kernel) (fun hc => ?_) (fun hc => ?_)
    · replace h := h.1 hc
      refine tq_s_lload (i := 4) (by decide +kernel) rfl ?_
      exact tq_ret_l (st := []) (by decide +kernel) rfl h
    · replace h := h.2 hc
      refine tq_s_lload (i := 4) (by decide +kernel) rfl ?_
      refine tq_s_lload_n (kk := 2) (by decide +kernel) rfl ?_
      refine tq_s_ladd (by decide +kernel) ?_
      exact tq_ret_l (st := []) (by decide +kernel) rfl h
def wc_X3_clearBelow_106 (B5 : Int32 → tq_S → Prop) (Q : tq_O → tq_S → Prop) (a1 : Int32) (a2 : Int32) (a3 : Int64) (a5 : Int64) (a7 : Int32) (z : tq_S) : Prop := ∀ v101 : Int32, v101 = a7 + (1 : Int32) → B5 v101 z
theorem ac_X3_clearBelow_106 {K : Nat × (Nat → Int32)} {x : Nat} {Q : tq_O → tq_S → Prop} {B5 : Int32 → tq_S → Prop} {a1 : Int32} {a2 : Int32} {a3 : Int64} {a5 : Int64} {a7 : Int32} {z : tq_S} (hB5 : ∀ (b7 : Int32) (z : tq_S), B5 b7 z → tq_T K 1 x mm_X3_clearBelow 5 [.ref 16, .int a1, .int a2, .long a3, .null, .long a5, .null, .int b7, .null, .null, .null, .null, .null] [] z Q) (h : wc_X3_clearBelow_106 B5 Q a1 a2 a3 a5 a7 z) : tq_T K 1 x mm_X3_clearBelow 106 [.ref 16, .int a1, .int a2, .long a3, .null, .long a5, .null, .int a7, .null, .null, .null, .null, .null] [] z Q := by
  unfold wc_X3_clearBelow_106 at h
  refine tq_g_iinc (i := 7) (fun v101 => [.ref 16, .int a1, .int a2, .long a3, .null, .long a5, .null, .int v101, .null, .null, .null, .null, .null]) (by decide +kernel) rfl (1 : Int32) kc_1 (fun _ => rfl) (fun v101 ev101 => ?_)
  replace h := h v101 ev101
  refine tq_s_goto (off := -104) (tgt := 5) (by decide +kernel) (by decide +kernel) ?_
  exact hB5 _ _ h
def wb_X3_clearBelow_33 (B5 : Int32 → tq_S → Prop) (B33 : Int32 → tq_S → Prop) (Q : tq_O → tq_S → Prop) (a1 : Int32) (a2 : Int32) (a3 : Int64) (a5 : Int64) (a7 : Int32) (a8 : Int64) (a10 : Int32) (z : tq_S) : Prop := ((a2 ≤ a10 → wc_X3_clearBelow_106 B5 Q a1 a2 a3 a5 a7 z) ∧ (¬ a2 ≤ a10 → ((a8 = (0 : Int64) → wc_X3_clearBelow_106 B5 Q a1 a2 a3 a5 a7 z) ∧ (¬ a8 = (0 : Int64) → vp_in ((a1 * (32 : Int32)) + a10) 1024 ∧ (¬ a5 = 0) ∧ ∀ v101 : Int64, v101 = ((a8 * (tq_al z 17 (Int32.toNatClampNeg ((a1 * (32 : Int32)) + a10)))) - (a8 * (tq_al z 17 (Int32.toNatClampNeg ((a1 * (32 : Int32)) + a10)))) / a5 * a5) → vp_in ((a7 * (32 : Int32)) + a10) 1024 ∧ wm_J9_floorMod_f86c9 ((tq_al z 17 (Int32.toNatClampNeg ((a7 * (32 : Int32)) + a10))) - v101) a5 z (tq_wl fun r103 z102 => vp_in ((a7 * (32 : Int32)) + a10) 1024 ∧ ∀ z104 : tq_S, z104 = tq_sal z102 17 (vp_updL (tq_al z102 17) (Int32.toNatClampNeg ((a7 * (32 : Int32)) + a10)) r103) → ∀ v105 : Int32, v105 = a10 + (1 : Int32) → B33 v105 z104)))))
def wc_X3_clearBelow_33 (B5 : Int32 → tq_S → Prop) (Q : tq_O → tq_S → Prop) (a1 : Int32) (a2 : Int32) (a3 : Int64) (a5 : Int64) (a7 : Int32) (a8 : Int64) (a10 : Int32) (z : tq_S) : Prop := tq_lp (σ := Int32 × tq_S) (fun B s => wb_X3_clearBelow_33 B5 (fun b10 z => B (b10, z)) Q a1 a2 a3 a5 a7 a8 s.1 s.2) (a10, z)
theorem ab_X3_clearBelow_33 {K : Nat × (Nat → Int32)} {x : Nat} {Q : tq_O → tq_S → Prop} {B5 : Int32 → tq_S → Prop} {B33 : Int32 → tq_S → Prop} {a1 : Int32} {a2 : Int32} {a3 : Int64} {a5 : Int64} {a7 : Int32} {a8 : Int64} {a10 : Int32} {z : tq_S} (hB5 : ∀ (b7 : Int32) (z : tq_S), B5 b7 z → tq_T K 1 x mm_X3_clearBelow 5 [.ref 16, .int a1, .int a2, .long a3, .null, .long a5, .null, .int b7, .null, .null, .null, .null, .null] [] z Q) (hB33 : ∀ (b10 : Int32) (z : tq_S), B33 b10 z → tq_T K 1 x mm_X3_clearBelow 33 [.ref 16, .int a1, .int a2, .long a3, .null, .long a5, .null, .int a7, .long a8, .null, .int b10, .null, .null] [] z Q) (h : wb_X3_clearBelow_33 B5 B33 Q a1 a2 a3 a5 a7 a8 a10 z) : tq_T K 1 x mm_X3_clearBelow 33 [.ref 16, .int a1, .int a2, .long a3, .null, .long a5, .null, .int a7, .long a8, .null, .int a10, .null, .null] [] z Q := by
  unfold wb_X3_clearBelow_33 at h
  refine tq_s_iload (i := 10) (by decide +kernel) rfl ?_
  refine tq_s_iload_n (kk := 2) (by decide +kernel) rfl ?_
  refine tq_icmp_ge (off := 70) (tgt := 106) (by decide +kernel) (by decide +kernel) (fun hc => ?_) (fun hc => ?_)
  · replace h := h.1 hc
    exact tq_to (tq_lk1 (tq_lk1 (tq_lk1 (tq_lk1 (tq_lk1 (tq_lk1 (tq_lk1 (tq_lk1 (tq_ld1 (tq_lk1 (tq_ld1 (tq_lk1 (tq_lk1 tq_l0))))))))))))) (ac_X3_clearBelow_106 hB5 h)
  · replace h := h.2 hc
    refine tq_s_lload (i := 8) (by decide +kernel) rfl ?_
    refine tq_k_lc (n := 0) (v := (0 : Int64)) (by decide +kernel) (by decide +kernel) ?_
    refine tq_lcmp_eq (off := 63) (tgt := 106) (by decide +kernel) (by decide +kernel) (by decide +kernel) (fun hc => ?_) (fun hc => ?_)
    · replace h := h.1 hc
      exact tq_to (tq_lk1 (tq_lk1 (tq_lk1 (tq_lk1 (tq_lk1 (tq_lk1 (tq_lk1 (tq_lk1 (tq_ld1 (tq_lk1 (tq_ld1 (tq_lk1 (tq_lk1 tq_l0))))))))))))) (ac_X3_clearBelow_106 hB5 h)
    · replace h := h.2 hc
      refine tq_s_lload (i := 8) (by decide +kernel) rfl ?_
      refine tq_s_aload_n (kk := 0) (by decide +kernel) rfl ?_
      refine fg_3_9_16 rfl (by decide +kernel) ?_
      refine tq_s_iload_n (kk := 1) (by decide +kernel) rfl ?_
      refine tq_k_bi (n := 32) (v := (32 : Int32)) (by decide +kernel) kb_32 ?_
      refine tq_s_imul (by decide +kernel) ?_
      refine tq_s_iload (i := 10) (by decide +kernel) rfl ?_
      refine tq_s_iadd (by decide +kernel) ?_
      refine tq_s_lald (by decide +kernel) sh_17 h.1 ?_
      replace h := h.2
      refine tq_s_lmul (by decide +kernel) ?_
      refine tq_s_lload (i := 5) (by decide +kernel) rfl ?_
      refine tq_s_lrem (by decide +kernel) h.1 ?_
      replace h := h.2
      refine tq_g_lstore (i := 11) (fun v101 => [.ref 16, .int a1, .int a2, .long a3, .null, .long a5, .null, .int a7, .long a8, .null, .int a10, .long v101, .null]) (by decide +kernel) (by decide) (fun _ => rfl) (fun v101 ev101 => ?_)
      replace h := h v101 ev101
      refine tq_s_aload_n (kk := 0) (by decide +kernel) rfl ?_
      refine fg_3_9_16 rfl (by decide +kernel) ?_
      refine tq_s_iload (i := 7) (by decide +kernel) rfl ?_
      refine tq_k_bi (n := 32) (v := (32 : Int32)) (by decide +kernel) kb_32 ?_
      refine tq_s_imul (by decide +kernel) ?_
      refine tq_s_iload (i := 10) (by decide +kernel) rfl ?_
      refine tq_s_iadd (by decide +kernel) ?_
      refine tq_s_aload_n (kk := 0) (by decide +kernel) rfl ?_
      refine fg_3_9_16 rfl (by decide +kernel) ?_
      refine tq_s_iload (i := 7) (by decide +kernel) rfl ?_
      refine tq_k_bi (n := 32) (v := (32 : Int32)) (by decide +kernel) kb_32 ?_
      refine tq_s_imul (by decide +kernel) ?_
      refine tq_s_iload (i := 10) (by decide +kernel) rfl ?_
      refine tq_s_iadd (by decide +kernel) ?_
      refine tq_s_lald (by decide +kernel) sh_17 h.1 ?_
      replace h := h.2
      refine tq_s_lload (i := 11) (by decide +kernel) rfl ?_
      refine tq_s_lsub (by decide +kernel) ?_
      refine tq_s_lload (i := 5) (by decide +kernel) rfl ?_
      refine tq_callS (as := [.long ((tq_al z 17 (Int32.toNatClampNeg ((a7 * (32 : Int32)) + a10))) - v101), .long a5]) (st := [.int ((a7 * (32 : Int32)) + a10), .ref 17]) (d1 := 0) (x1 := 0) (x2 := x) (by decide +kernel) ln_3_62 mf_J9_floorMod_f86c9 rfl (by decide) np_J9_floorMod_f86c9 rfl (Nat.le_of_ble_eq_true rfl) (by decide) (Nat.zero_add _).symm (tq_M_mono (am_J9_floorMod_f86c9 h) ?_)
      refine tq_wl_e (fun r103 z102 h => ?_)
      refine tq_g_last (by decide +kernel) sh_17 h.1 (fun z104 ez104 => ?_)
      replace h := h.2 z104 ez104
      refine tq_g_iinc (i := 10) (fun v105 => [.ref 16, .int a1, .int a2, .long a3, .null, .long a5, .null, .int a7, .long a8, .null, .int v105, .long v101, .null]) (by decide +kernel) rfl (1 : Int32) kc_1 (fun _ => rfl) (fun v105 ev105 => ?_)
      replace h := h v105 ev105
      refine tq_s_goto (off := -70) (tgt := 33) (by decide +kernel) (by decide +kernel) ?_
      exact tq_to (tq_lk1 (tq_lk1 (tq_lk1 (tq_lk1 (tq_lk1 (tq_lk1 (tq_lk1 (tq_lk1 (tq_lk1 (tq_lk1 (tq_lk1 (tq_ld1 (tq_lk1 tq_l0))))))))))))) (hB33 _ _ h)
theorem ac_X3_clearBelow_33 {K : Nat × (Nat → Int32)} {x : Nat} {Q : tq_O → tq_S → Prop} {B5 : Int32 → tq_S → Prop} {a1 : Int32} {a2 : Int32} {a3 : Int64} {a5 : Int64} {a7 : Int32} {a8 : Int64} {a10 : Int32} {z : tq_S} (hB5 : ∀ (b7 : Int32) (z : tq_S), B5 b7 z → tq_T K 1 x mm_X3_clearBelow 5 [.ref 16, .int a1, .int a2, .long a3, .null, .long a5, .null, .int b7, .null, .null, .null, .null, .null] [] z Q) (h : wc_X3_clearBelow_33 B5 Q a1 a2 a3 a5 a7 a8 a10 z) : tq_T K 1 x mm_X3_clearBelow 33 [.ref 16, .int a1, .int a2, .long a3, .null, .long a5, .null, .int a7, .long a8, .null, .int a10, .null, .null] [] z Q :=
  tq_lp_T (σ := Int32 × tq_S) (s := (a10, z)) (G := fun s => tq_T K 1 x mm_X3_clearBelow 33 [.ref 16, .int a1, .int a2, .long a3, .null, .long a5, .null, .int a7, .long a8, .null, .int s.1, .null, .null] [] s.2 Q) (fun B hB s h => ab_X3_clearBelow_33 hB5 (fun b10 z h => hB (b10, z) h) h) h
def wb_X3_clearBelow_5 (B5 : Int32 → tq_S → Prop) (Q : tq_O → tq_S → Prop) (a1 : Int32) (a2 : Int32) (a3 : Int64) (a5 : Int64) (a7 : Int32) (z : tq_S) : Prop := ((a2 ≤ a7 → Q (.inl none) z) ∧ (¬ a2 ≤ a7 → vp_in ((a7 * (32 : Int32)) + a1) 1024 ∧ (¬ a5 = 0) ∧ ∀ v101 : Int64, v101 = (((tq_al z 17 (Int32.toNatClampNeg ((a7 * (32 : Int32)) + a1))) * a3) - ((tq_al z 17 (Int32.toNatClampNeg ((a7 * (32 : Int32)) + a1))) * a3) / a5 * a5) → wc_X3_clearBelow_33 B5 Q a1 a2 a3 a5 a7 v101 a1 z))
def wc_X3_clearBelow_5 (Q : tq_O → tq_S → Prop) (a1 : Int32) (a2 : Int32) (a3 : Int64) (a5 : Int64) (a7 : Int32) (z : tq_S) : Prop := tq_lp (σ := Int32 × tq_S) (fun B s => wb_X3_clearBelow_5 (fun b7 z => B (b7, z)) Q a1 a2 a3 a5 s.1 s.2) (a7, z)
theorem ab_X3_clearBelow_5 {K : Nat × (Nat → Int32)} {x : Nat} {Q : tq_O → tq_S → Prop} {B5 : Int32 → tq_S → Prop} {a1 : Int32} {a2 : Int32} {a3 : Int64} {a5 : Int64} {a7 : Int32} {z : tq_S} (hB5 : ∀ (b7 : Int32) (z : tq_S), B5 b7 z → tq_T K 1 x mm_X3_clearBelow 5 [.ref 16, .int a1, .int a2, .long a3, .null, .long a5, .null, .int b7, .null, .null, .null, .null, .null] [] z Q) (h : wb_X3_clearBelow_5 B5 Q a1 a2 a3 a5 a7 z) : tq_T K 1 x mm_X3_clearBelow 5 [.ref 16, .int a1, .int a2, .long a3, .null, .long a5, .null, .int a7, .null, .null, .null, .null, .null] [] z Q := by
  unfold wb_X3_clearBelow_5 at h
  refine tq_s_iload (i := 7) (by decide +kernel) rfl ?_
  refine tq_s_iload_n (kk := 2) (by decide +kernel) rfl ?_
  refine tq_icmp_ge (off := 104) (tgt := 112) (by decide +kernel) (by decide +kernel) (fun hc => ?_) (fun hc => ?_)
  · replace h := h.1 hc
    exact tq_ret_v (st := []) (by decide +kernel) rfl h
  · replace h := h.2 hc
    refine tq_s_aload_n (kk := 0) (by decide +kernel) rfl ?_
    refine fg_3_9_16 rfl (by decide +kernel) ?_
    refine tq_s_iload (i := 7) (by decide +kernel) rfl ?_
    refine tq_k_bi (n := 32) (v := (32 : Int32)) (by decide +kernel) kb_32 ?_
    refine tq_s_imul (by decide +kernel) ?_
    refine tq_s_iload_n (kk := 1) (by decide +kernel) rfl ?_
    refine tq_s_iadd (by decide +kernel) ?_
    refine tq_s_lald (by decide +kernel) sh_17 h.1 ?_
    replace h := h.2
    refine tq_s_lload_n (kk := 3) (by decide +kernel) rfl ?_
    refine tq_s_lmul (by decide +kernel) ?_
    refine tq_s_lload (i := 5) (by decide +kernel) rfl ?_
    refine tq_s_lrem (by decide +kernel) h.1 ?_
    replace h := h.2
    refine tq_g_lstore (i := 8) (fun v101 => [.ref 16, .int a1, .int a2, .long a3, .null, .long a5, .null, .int a7, .long v101, .null, .null, .null, .null]) (by decide +kernel) (by decide) (fun _ => rfl) (fun v101 ev101 => ?_)
    replace h := h v101 ev101
    refine tq_s_iload_n (kk := 1) (by decide +kernel) rfl ?_
    refine tq_s_istore (i := 10) (L9 := [.ref 16, .int a1, .int a2, .long a3, .null, .long a5, .null, .int a7, .long v101, .null, .int a1, .null, .null]) (by decide +kernel) (by decide) rfl ?_
    exact ac_X3_clearBelow_33 hB5 h
theorem ac_X3_clearBelow_5 {K : Nat × (Nat → Int32)} {x : Nat} {Q : tq_O → tq_S → Prop} {a1 : Int32} {a2 : Int32} {a3 : Int64} {a5 : Int64} {a7 : Int32} {z : tq_S} (h : wc_X3_clearBelow_5 Q a1 a2 a3 a5 a7 z) : tq_T K 1 x mm_X3_clearBelow 5 [.ref 16, .int a1, .int a2, .long a3, .null, .long a5, .null, .int a7, .null, .null, .null, .null, .null] [] z Q :=
  tq_lp_T (σ := Int32 × tq_S) (s := (a7, z)) (G := fun s => tq_T K 1 x mm_X3_clearBelow 5 [.ref 16, .int a1, .int a2, .long a3, .null, .long a5, .null, .int s.1, .null, .null, .null, .null, .null] [] s.2 Q) (fun B hB s h => ab_X3_clearBelow_5 (fun b7 z h => hB (b7, z) h) h) h
def wm_X3_clearBelow (a1 : Int32) (a2 : Int32) (a3 : Int64) (a5 : Int64) (z : tq_S) (Q : tq_O → tq_S → Prop) : Prop := ∀ v1 : Int32, v1 = (a1 + (1 : Int32)) → wc_X3_clearBelow_5 Q a1 a2 a3 a5 v1 z
theorem am_X3_clearBelow {K : Nat × (Nat → Int32)} {x : Nat} {z : tq_S} {Q : tq_O → tq_S → Prop} {a1 : Int32} {a2 : Int32} {a3 : Int64} {a5 : Int64} (h : wm_X3_clearBelow a1 a2 a3 a5 z Q) : tq_M K 1 x mm_X3_clearBelow [.ref 16, .int a1, .int a2, .long a3, .long a5] z Q := by
  unfold wm_X3_clearBelow at h
  refine tq_enter (L := [.ref 16, .int a1, .int a2, .long a3, .null, .long a5, .null, .null, .null, .null, .null, .null, .null]) mf_X3_clearBelow.1 rfl rfl (Nat.le_of_ble_eq_true rfl) ?_
  refine tq_s_iload_n (kk := 1) (by decide +kernel) rfl ?_
  refine tq_k_ic (n := 1) (v := (1 : Int32)) (by decide +kernel) kc_1 ?_
  refine tq_s_iadd (by decide +kernel) ?_
  refine tq_g_istore (i := 7) (fun v1 => [.ref 16, .int a1, .int a2, .long a3, .null, .long a5, .null, .int v1, .null, .null, .null, .null, .null]) (by decide +kernel) (by decide) (fun _ => rfl) (fun v1 ev1 => ?_)
  replace h := h v1 ev1
  exact ac_X3_clearBelow_5 h
def wc_X3_eliminate_50 (B6 : Int64 → Int32 → tq_S → Prop) (Q : tq_O → tq_S → Prop) (a1 : Int32) (a2 : Int64) (a4 : Int64) (a6 : Int32) (z : tq_S) : Prop := vp_in ((a6 * (32 : Int32)) + a6) 1024 ∧ ∀ v101 : Int64, v101 = (tq_al z 17 (Int32.toNatClampNeg ((a6 * (32 : Int32)) + a6))) → (¬ a2 = 0) ∧ ∀ v102 : Int64, v102 = ((a4 * v101) - (a4 * v101) / a2 * a2) → wm_X3_inverse v101 a2 z (tq_wl fun r104 z103 => wm_X3_clearBelow a6 a1 r104 a2 z103 (tq_wv fun z105 => ∀ v106 : Int32, v106 = a6 + (1 : Int32) → B6 v102 v106 z105))
theorem ac_X3_eliminate_50 {K : Nat × (Nat → Int32)} {x : Nat} {Q : tq_O → tq_S → Prop} {B6 : Int64 → Int32 → tq_S → Prop} {a1 : Int32} {a2 : Int64} {a4 : Int64} {a6 : Int32} {z : tq_S} (hB6 : ∀ (b4 : Int64) (b6 : Int32) (z : tq_S), B6 b4 b6 z → tq_T K 2 x mm_X3_eliminate 6 [.ref 16, .int a1, .long a2, .null, .long b4, .null, .int b6, .null, .null, .null] [] z Q) (h : wc_X3_eliminate_50 B6 Q a1 a2 a4 a6 z) : tq_T K 2 x mm_X3_eliminate 50 [.ref 16, .int a1, .long a2, .null, .long a4, .null, .int a6, .null, .null, .null] [] z Q := by
  unfold wc_X3_eliminate_50 at h
  refine tq_s_aload_n (kk := 0) (by decide +kernel) rfl ?_
  refine fg_3_9_16 rfl (by decide +kernel) ?_
  refine tq_s_iload (i := 6) (by decide +kernel) rfl ?_
  refine tq_k_bi (n := 32) (v := (32 : Int32)) (by decide +kernel) kb_32 ?_
  refine tq_s_imul (by decide +kernel) ?_
  refine tq_s_iload (i := 6) (by decide +kernel) rfl ?_
  refine tq_s_iadd (by decide +kernel) ?_
  refine tq_s_lald (by decide +kernel) sh_17 h.1 ?_
  replace h := h.2
  refine tq_g_lstore (i := 8) (fun v101 => [.ref 16, .int a1, .long a2, .null, .long a4, .null, .int a6, .null, .long v101, .null]) (by decide +kernel) (by decide) (fun _ => rfl) (fun v101 ev101 => ?_)
  replace h := h v101 ev101
  refine tq_s_lload (i := 4) (by decide +kernel) rfl ?_
  refine tq_s_lload (i := 8) (by decide +kernel) rfl ?_
  refine tq_s_lmul (by decide +kernel) ?_
  refine tq_s_lload_n (kk := 2) (by decide +kernel) rfl ?_
  refine tq_s_lrem (by decide +kernel) h.1 ?_
  replace h := h.2
  refine tq_g_lstore (i := 4) (fun v102 => [.ref 16, .int a1, .long a2, .null, .long v102, .null, .int a6, .null, .long v101, .null]) (by decide +kernel) (by decide) (fun _ => rfl) (fun v102 ev102 => ?_)
  replace h := h v102 ev102
  refine tq_s_aload_n (kk := 0) (by decide +kernel) rfl ?_
  refine tq_s_iload (i := 6) (by decide +kernel) rfl ?_
  refine tq_s_iload_n (kk := 1) (by decide +kernel) rfl ?_
  refine tq_s_lload (i := 8) (by decide +kernel) rfl ?_
  refine tq_s_lload_n (kk := 2) (by decide +kernel) rfl ?_
  refine tq_callS (as := [.long v101, .long a2]) (st := [.int a1, .int a6, .ref 16]) (d1 := 1) (x1 := 0) (x2 := x) (by decide +kernel) ln_3_68 mf_X3_inverse rfl (by decide) np_X3_inverse rfl (Nat.le_of_ble_eq_true rfl) (by decide) (Nat.zero_add _).symm (tq_M_mono (am_X3_inverse h) ?_)
  refine tq_wl_e (fun r104 z103 h => ?_)
  refine tq_s_lload_n (kk := 2) (by decide +kernel) rfl ?_
  refine tq_callV (as := [.int a6, .int a1, .long r104, .long a2]) (st := []) (d1 := 1) (x1 := 0) (x2 := x) (by decide +kernel) ln_3_120 mf_X3_clearBelow rfl sh_16 rfl (by decide) np_X3_clearBelow rfl (Nat.le_of_ble_eq_true rfl) (by decide) (Nat.zero_add _).symm (tq_M_mono (am_X3_clearBelow h) ?_)
  refine tq_wv_e (fun z105 h => ?_)
  refine tq_g_iinc (i := 6) (fun v106 => [.ref 16, .int a1, .long a2, .null, .long v102, .null, .int v106, .null, .long v101, .null]) (by decide +kernel) rfl (1 : Int32) kc_1 (fun _ => rfl) (fun v106 ev106 => ?_)
  replace h := h v106 ev106
  refine tq_s_goto (off := -85) (tgt := 6) (by decide +kernel) (by decide +kernel) ?_
  exact tq_to (tq_lk1 (tq_lk1 (tq_lk1 (tq_lk1 (tq_lk1 (tq_lk1 (tq_lk1 (tq_lk1 (tq_ld1 (tq_lk1 tq_l0)))))))))) (hB6 _ _ _ h)
def wb_X3_eliminate_6 (B6 : Int64 → Int32 → tq_S → Prop) (Q : tq_O → tq_S → Prop) (a1 : Int32) (a2 : Int64) (a4 : Int64) (a6 : Int32) (z : tq_S) : Prop := ((a1 ≤ a6 → Q (.inl (some (.long a4))) z) ∧ (¬ a1 ≤ a6 → wm_X3_pivotOf a6 a1 z (tq_wi fun r102 z101 => ((0 ≤ r102 → ((r102 = a6 → wc_X3_eliminate_50 B6 Q a1 a2 a4 a6 z101) ∧ (¬ r102 = a6 → wm_X3_swapRows a6 r102 a1 z101 (tq_wv fun z103 => ∀ v104 : Int64, v104 = (a2 - a4) → wc_X3_eliminate_50 B6 Q a1 a2 v104 a6 z103)))) ∧ (¬ 0 ≤ r102 → Q (.inl (some (.long (0 : Int64)))) z101)))))
def wc_X3_eliminate_6 (Q : tq_O → tq_S → Prop) (a1 : Int32) (a2 : Int64) (a4 : Int64) (a6 : Int32) (z : tq_S) : Prop := tq_lp (σ := Int64 × Int32 × tq_S) (fun B s => wb_X3_eliminate_6 (fun b4 b6 z => B (b4, b6, z)) Q a1 a2 s.1 s.2.1 s.2.2) (a4, a6, z)
theorem ab_X3_eliminate_6 {K : Nat × (Nat → Int32)} {x : Nat} {Q : tq_O → tq_S → Prop} {B6 : Int64 → Int32 → tq_S → Prop} {a1 : Int32} {a2 : Int64} {a4 : Int64} {a6 : Int32} {z : tq_S} (hB6 : ∀ (b4 : Int64) (b6 : Int32) (z : tq_S), B6 b4 b6 z → tq_T K 2 x mm_X3_eliminate 6 [.ref 16, .int a1, .long a2, .null, .long b4, .null, .int b6, .null, .null, .null] [] z Q) (h : wb_X3_eliminate_6 B6 Q a1 a2 a4 a6 z) : tq_T K 2 x mm_X3_eliminate 6 [.ref 16, .int a1, .long a2, .null, .long a4, .null, .int a6, .null, .null, .null] [] z Q := by
  unfold wb_X3_eliminate_6 at h
  refine tq_s_iload (i := 6) (by decide +kernel) rfl ?_
  refine tq_s_iload_n (kk := 1) (by decide +kernel) rfl ?_
  refine tq_icmp_ge (off := 85) (tgt := 94) (by decide +kernel) (by decide +kernel) (fun hc => ?_) (fun hc => ?_)
  · replace h := h.1 hc
    refine tq_s_lload (i := 4) (by decide +kernel) rfl ?_
    exact tq_ret_l (st := []) (by decide +kernel) rfl h
  · replace h := h.2 hc
    refine tq_s_aload_n (kk := 0) (by decide +kernel) rfl ?_
    refine tq_s_iload (i := 6) (by decide +kernel) rfl ?_
    refine tq_s_iload_n (kk := 1) (by decide +kernel) rfl ?_
    refine tq_callV (as := [.int a6, .int a1]) (st := []) (d1 := 0) (x1 := 0) (x2 := x) (by decide +kernel) ln_3_112 mf_X3_pivotOf rfl sh_16 rfl (by decide) np_X3_pivotOf rfl (Nat.le_of_ble_eq_true rfl) (by decide) (Nat.zero_add _).symm (tq_M_mono (am_X3_pivotOf h) ?_)
    refine tq_wi_e (fun r102 z101 h => ?_)
    refine tq_s_istore (i := 7) (L9 := [.ref 16, .int a1, .long a2, .null, .long a4, .null, .int a6, .int r102, .null, .null]) (by decide +kernel) (by decide) rfl ?_
    refine tq_s_iload (i := 7) (by decide +kernel) rfl ?_
    refine tq_if_ge (off := 5) (tgt := 28) (by decide +kernel) (by decide +kernel) (fun hc => ?_) (fun hc => ?_)
    · replace h := h.1 hc
      refine tq_s_iload (i := 7) (by decide +kernel) rfl ?_
      refine tq_s_iload (i := 6) (by decide +kernel) rfl ?_
      refine tq_icmp_eq (off := 18) (tgt := 50) (by decide +kernel) (by decide +kernel) (fun hc => ?_) (fun hc => ?_)
      · replace h := h.1 hc
        exact tq_to (tq_lk1 (tq_lk1 (tq_lk1 (tq_lk1 (tq_lk1 (tq_lk1 (tq_lk1 (tq_ld1 (tq_lk1 (tq_lk1 tq_l0)))))))))) (ac_X3_eliminate_50 hB6 h)
      · replace h := h.2 hc
        refine tq_s_aload_n (kk := 0) (by decide +kernel) rfl ?_
        refine tq_s_iload (i := 6) (by decide +kernel) rfl ?_
        refine tq_s_iload (i := 7) (by decide +kernel) rfl ?_
        refine tq_s_iload_n (kk := 1) (by decide +kernel) rfl ?_
        refine tq_callV (as := [.int a6, .int r102, .int a1]) (st := []) (d1 := 0) (x1 := 0) (x2 := x) (by decide +kernel) ln_3_116 mf_X3_swapRows rfl sh_16 rfl (by decide) np_X3_swapRows rfl (Nat.le_of_ble_eq_true rfl) (by decide) (Nat.zero_add _).symm (tq_M_mono (am_X3_swapRows h) ?_)
        refine tq_wv_e (fun z103 h => ?_)
        refine tq_s_lload_n (kk := 2) (by decide +kernel) rfl ?_
        refine tq_s_lload (i := 4) (by decide +kernel) rfl ?_
        refine tq_s_lsub (by decide +kernel) ?_
        refine tq_g_lstore (i := 4) (fun v104 => [.ref 16, .int a1, .long a2, .null, .long v104, .null, .int a6, .int r102, .null, .null]) (by decide +kernel) (by decide) (fun _ => rfl) (fun v104 ev104 => ?_)
        replace h := h v104 ev104
        exact tq_to (tq_lk1 (tq_lk1 (tq_lk1 (tq_lk1 (tq_lk1 (tq_lk1 (tq_lk1 (tq_ld1 (tq_lk1 (tq_lk1 tq_l0)))))))))) (ac_X3_eliminate_50 hB6 h)
    · replace h := h.2 hc
      refine tq_k_lc (n := 0) (v := (0 : Int64)) (by decide +kernel) (by decide +kernel) ?_
      exact tq_ret_l (st := []) (by decide +kernel) rfl h
theorem ac_X3_eliminate_6 {K : Nat × (Nat → Int32)} {x : Nat} {Q : tq_O → tq_S → Prop} {a1 : Int32} {a2 : Int64} {a4 : Int64} {a6 : Int32} {z : tq_S} (h : wc_X3_eliminate_6 Q a1 a2 a4 a6 z) : tq_T K 2 x mm_X3_eliminate 6 [.ref 16, .int a1, .long a2, .null, .long a4, .null, .int a6, .null, .null, .null] [] z Q :=
  tq_lp_T (σ := Int64 × Int32 × tq_S) (s := (a4, a6, z)) (G := fun s => tq_T K 2 x mm_X3_eliminate 6 [.ref 16, .int a1, .long a2, .null, .long s.1, .null, .int s.2.1, .null, .null, .null] [] s.2.2 Q) (fun B hB s h => ab_X3_eliminate_6 (fun b4 b6 z h => hB (b4, b6, z) h) h) h
def wm_X3_eliminate (a1 : Int32) (a2 : Int64) (z : tq_S) (Q : tq_O → tq_S → Prop) : Prop := wc_X3_eliminate_6 Q a1 a2 (1 : Int64) (0 : Int32) z
theorem am_X3_eliminate {K : Nat × (Nat → Int32)} {x : Nat} {z : tq_S} {Q : tq_O → tq_S → Prop} {a1 : Int32} {a2 : Int64} (h : wm_X3_eliminate a1 a2 z Q) : tq_M K 2 x mm_X3_eliminate [.ref 16, .int a1, .long a2] z Q := by
  unfold wm_X3_eliminate at h
  refine tq_enter (L := [.ref 16, .int a1, .long a2, .null, .null, .null, .null, .null, .null, .null]) mf_X3_eliminate.1 rfl rfl (Nat.le_of_ble_eq_true rfl) ?_
  refine tq_k_lc (n := 1) (v := (1 : Int64)) (by decide +kernel) (by decide +kernel) ?_
  refine tq_s_lstore (i := 4) (L9 := [.ref 16, .int a1, .long a2, .null, .long (1 : Int64), .null, .null, .null, .null, .null]) (by decide +kernel) (by decide) rfl ?_
  refine tq_k_ic (n := 0) (v := (0 : Int32)) (by decide +kernel) kc_0 ?_
  refine tq_s_istore (i := 6) (L9 := [.ref 16, .int a1, .long a2, .null, .long (1 : Int64), .null, .int (0 : Int32), .null, .null, .null]) (by decide +kernel) (by decide) rfl ?_
  exact ac_X3_eliminate_6 h
def wm_X3_secondDigit  (z : tq_S) (Q : tq_O → tq_S → Prop) : Prop := wm_J9_floorMod_f86c9 ((tq_al z 18 (Int32.toNatClampNeg (1 : Int32))) - (tq_al z 18 (Int32.toNatClampNeg (0 : Int32)))) (2147483629 : Int64) z (tq_wl fun r2 z1 => wm_X3_inverse (2147483647 : Int64) (2147483629 : Int64) z1 (tq_wl fun r4 z3 => Q (.inl (some (.long ((r2 * r4) - (r2 * r4) / (2147483629 : Int64) * (2147483629 : Int64))))) z3))
theorem am_X3_secondDigit {K : Nat × (Nat → Int32)} {x : Nat} {z : tq_S} {Q : tq_O → tq_S → Prop}  (h : wm_X3_secondDigit z Q) : tq_M K 2 x mm_X3_secondDigit [.ref 16] z Q := by
  unfold wm_X3_secondDigit at h
  refine tq_enter (L := [.ref 16]) mf_X3_secondDigit.1 rfl rfl (Nat.le_of_ble_eq_true rfl) ?_
  refine tq_s_aload_n (kk := 0) (by decide +kernel) rfl ?_
  refine fg_3_13_16 rfl (by decide +kernel) ?_
  refine tq_k_ic (n := 1) (v := (1 : Int32)) (by decide +kernel) kc_1 ?_
  refine tq_s_lald (by decide +kernel) sh_18 vi_1_3 ?_
  refine tq_s_aload_n (kk := 0) (by decide +kernel) rfl ?_
  refine fg_3_13_16 rfl (by decide +kernel) ?_
  refine tq_k_ic (n := 0) (v := (0 : Int32)) (by decide +kernel) kc_0 ?_
  refine tq_s_lald (by decide +kernel) sh_18 vi_0_3 ?_
  refine tq_s_lsub (by decide +kernel) ?_
  refine tq_s_ldc2 (i := 18) (v := (2147483629 : Int64)) (by decide +kernel) (by decide +kernel) ?_
  refine tq_callS (as := [.long ((tq_al z 18 (Int32.toNatClampNeg (1 : Int32))) - (tq_al z 18 (Int32.toNatClampNeg (0 : Int32)))), .long (2147483629 : Int64)]) (st := []) (d1 := 0) (x1 := 0) (x2 := x) (by decide +kernel) ln_3_62 mf_J9_floorMod_f86c9 rfl (by decide) np_J9_floorMod_f86c9 rfl (Nat.le_of_ble_eq_true rfl) (by decide) (Nat.zero_add _).symm (tq_M_mono (am_J9_floorMod_f86c9 h) ?_)
  refine tq_wl_e (fun r2 z1 h => ?_)
  refine tq_s_ldc2 (i := 16) (v := (2147483647 : Int64)) (by decide +kernel) (by decide +kernel) ?_
  refine tq_s_ldc2 (i := 18) (v := (2147483629 : Int64)) (by decide +kernel) (by decide +kernel) ?_
  refine tq_callS (as := [.long (2147483647 : Int64), .long (2147483629 : Int64)]) (st := [.long r2]) (d1 := 1) (x1 := 0) (x2 := x) (by decide +kernel) ln_3_68 mf_X3_inverse rfl (by decide) np_X3_inverse rfl (Nat.le_of_ble_eq_true rfl) (by decide) (Nat.zero_add _).symm (tq_M_mono (am_X3_inverse h) ?_)
  refine tq_wl_e (fun r4 z3 h => ?_)
  refine tq_s_lmul (by decide +kernel) ?_
  refine tq_s_ldc2 (i := 18) (v := (2147483629 : Int64)) (by decide +kernel) (by decide +kernel) ?_
  refine tq_s_lrem (by decide +kernel) (by decide +kernel) ?_
  exact tq_ret_l (st := []) (by decide +kernel) rfl h
def wc_X3_countCovers_83 (Q : tq_O → tq_S → Prop)  (z : tq_S) : Prop := wm_X3_secondDigit z (tq_wl fun r102 z101 => ∀ v103 : Int64, v103 = ((tq_al z 18 (Int32.toNatClampNeg (0 : Int32))) + ((2147483647 : Int64) * r102)) → ((v103 ≤ ((4611685975477714963 : Int64) / (2 : Int64)) → Q (.inl (some (.long v103))) z101) ∧ (¬ v103 ≤ ((4611685975477714963 : Int64) / (2 : Int64)) → Q (.inl (some (.long ((4611685975477714963 : Int64) - v103)))) z101)))
theorem ac_X3_countCovers_83 {K : Nat × (Nat → Int32)} {x : Nat} {Q : tq_O → tq_S → Prop}  {z : tq_S} (h : wc_X3_countCovers_83 Q z) : tq_T K 3 x mm_X3_countCovers 83 [.ref 16, .null, .null, .null, .null, .null, .null, .null, .null, .null, .null] [] z Q := by
  unfold wc_X3_countCovers_83 at h
  refine tq_s_aload_n (kk := 0) (by decide +kernel) rfl ?_
  refine fg_3_13_16 rfl (by decide +kernel) ?_
  refine tq_k_ic (n := 0) (v := (0 : Int32)) (by decide +kernel) kc_0 ?_
  refine tq_s_lald (by decide +kernel) sh_18 vi_0_3 ?_
  refine tq_s_ldc2 (i := 16) (v := (2147483647 : Int64)) (by decide +kernel) (by decide +kernel) ?_
  refine tq_s_aload_n (kk := 0) (by decide +kernel) rfl ?_
  refine tq_callV (as := []) (st := [.long (2147483647 : Int64), .long (tq_al z 18 (Int32.toNatClampNeg (0 : Int32)))]) (d1 := 2) (x1 := 0) (x2 := x) (by decide +kernel) ln_3_56 mf_X3_secondDigit rfl sh_16 rfl (by decide) np_X3_secondDigit rfl (Nat.le_of_ble_eq_true rfl) (by decide) (Nat.zero_add _).symm (tq_M_mono (am_X3_secondDigit h) ?_)
  refine tq_wl_e (fun r102 z101 h => ?_)
  refine tq_s_lmul (by decide +kernel) ?_
  refine tq_s_ladd (by decide +kernel) ?_
  refine tq_g_lstore (i := 7) (fun v103 => [.ref 16, .null, .null, .null, .null, .null, .null, .long v103, .null, .null, .null]) (by decide +kernel) (by decide) (fun _ => rfl) (fun v103 ev103 => ?_)
  replace h := h v103 ev103
  refine tq_s_ldc2 (i := 60) (v := (4611685975477714963 : Int64)) (by decide +kernel) (by decide +kernel) ?_
  refine tq_s_lstore (i := 9) (L9 := [.ref 16, .null, .null, .null, .null, .null, .null, .long v103, .null, .long (4611685975477714963 : Int64), .null]) (by decide +kernel) (by decide) rfl ?_
  refine tq_s_lload (i := 7) (by decide +kernel) rfl ?_
  refine tq_s_lload (i := 9) (by decide +kernel) rfl ?_
  refine tq_s_ldc2 (i := 22) (v := (2 : Int64)) (by decide +kernel) (by decide +kernel) ?_
  refine tq_s_ldiv (by decide +kernel) (by decide +kernel) ?_
  refine tq_lcmp_le (off := 11) (tgt := 125) (by decide +kernel) (by decide +kernel) (by decide +kernel) (fun hc => ?_) (fun hc => ?_)
  · replace h := h.1 hc
    refine tq_s_lload (i := 7) (by decide +kernel) rfl ?_
    exact tq_ret_l (st := []) (by decide +kernel) rfl h
  · replace h := h.2 hc
    refine tq_s_lload (i := 9) (by decide +kernel) rfl ?_
    refine tq_s_lload (i := 7) (by decide +kernel) rfl ?_
    refine tq_s_lsub (by decide +kernel) ?_
    refine tq_s_goto (off := 5) (tgt := 127) (by decide +kernel) (by decide +kernel) ?_
    exact tq_ret_l (st := []) (by decide +kernel) rfl h
def wb_X3_countCovers_40 (B40 : Int32 → tq_S → Prop) (Q : tq_O → tq_S → Prop) (a2 : Int64) (a4 : Int64) (a6 : Int32) (a7 : Int32) (z : tq_S) : Prop := (((2 : Int32) ≤ a7 → wc_X3_countCovers_83 Q z) ∧ (¬ (2 : Int32) ≤ a7 → wm_X3_prime a7 z (tq_wl fun r102 z101 => wm_X3_fillSigns a2 a4 r102 z101 (tq_wv fun z103 => wm_X3_prime a7 z103 (tq_wl fun r105 z104 => wm_X3_eliminate a6 r105 z104 (tq_wl fun r107 z106 => vp_in a7 3 ∧ ∀ z108 : tq_S, z108 = tq_sal z106 18 (vp_updL (tq_al z106 18) (Int32.toNatClampNeg a7) r107) → ∀ v109 : Int32, v109 = a7 + (1 : Int32) → B40 v109 z108))))))
def wc_X3_countCovers_40 (Q : tq_O → tq_S → Prop) (a2 : Int64) (a4 : Int64) (a6 : Int32) (a7 : Int32) (z : tq_S) : Prop := tq_lp (σ := Int32 × tq_S) (fun B s => wb_X3_countCovers_40 (fun b7 z => B (b7, z)) Q a2 a4 a6 s.1 s.2) (a7, z)
theorem ab_X3_countCovers_40 {K : Nat × (Nat → Int32)} {x : Nat} {Q : tq_O → tq_S → Prop} {B40 : Int32 → tq_S → Prop} {a2 : Int64} {a4 : Int64} {a6 : Int32} {a7 : Int32} {z : tq_S} (hB40 : ∀ (b7 : Int32) (z : tq_S), B40 b7 z → tq_T K 3 x mm_X3_countCovers 40 [.ref 16, .ref 1, .long a2, .null, .long a4, .null, .int a6, .int b7, .null, .null, .null] [] z Q) (h : wb_X3_countCovers_40 B40 Q a2 a4 a6 a7 z) : tq_T K 3 x mm_X3_countCovers 40 [.ref 16, .ref 1, .long a2, .null, .long a4, .null, .int a6, .int a7, .null, .null, .null] [] z Q := by
  unfold wb_X3_countCovers_40 at h
  refine tq_s_iload (i := 7) (by decide +kernel) rfl ?_
  refine tq_k_ic (n := 2) (v := (2 : Int32)) (by decide +kernel) kc_2 ?_
  refine tq_icmp_ge (off := 40) (tgt := 83) (by decide +kernel) (by decide +kernel) (fun hc => ?_) (fun hc => ?_)
  · replace h := h.1 hc
    exact tq_to (tq_lk1 (tq_ld1 (tq_ld1 (tq_lk1 (tq_ld1 (tq_lk1 (tq_ld1 (tq_ld1 (tq_lk1 (tq_lk1 (tq_lk1 tq_l0))))))))))) (ac_X3_countCovers_83 h)
  · replace h := h.2 hc
    refine tq_s_aload_n (kk := 0) (by decide +kernel) rfl ?_
    refine tq_s_aload_n (kk := 1) (by decide +kernel) rfl ?_
    refine tq_s_lload_n (kk := 2) (by decide +kernel) rfl ?_
    refine tq_s_lload (i := 4) (by decide +kernel) rfl ?_
    refine tq_s_iload (i := 7) (by decide +kernel) rfl ?_
    refine tq_callS (as := [.int a7]) (st := [.long a4, .long a2, .ref 1, .ref 16]) (d1 := 0) (x1 := 0) (x2 := x) (by decide +kernel) ln_3_44 mf_X3_prime rfl (by decide) np_X3_prime rfl (Nat.le_of_ble_eq_true rfl) (by decide) (Nat.zero_add _).symm (tq_M_mono (am_X3_prime h) ?_)
    refine tq_wl_e (fun r102 z101 h => ?_)
    refine tq_callV (as := [.ref 1, .long a2, .long a4, .long r102]) (st := []) (d1 := 2) (x1 := 0) (x2 := x) (by decide +kernel) ln_3_48 mf_X3_fillSigns rfl sh_16 rfl (by decide) np_X3_fillSigns rfl (Nat.le_of_ble_eq_true rfl) (by decide) (Nat.zero_add _).symm (tq_M_mono (am_X3_fillSigns h) ?_)
    refine tq_wv_e (fun z103 h => ?_)
    refine tq_s_aload_n (kk := 0) (by decide +kernel) rfl ?_
    refine fg_3_13_16 rfl (by decide +kernel) ?_
    refine tq_s_iload (i := 7) (by decide +kernel) rfl ?_
    refine tq_s_aload_n (kk := 0) (by decide +kernel) rfl ?_
    refine tq_s_iload (i := 6) (by decide +kernel) rfl ?_
    refine tq_s_iload (i := 7) (by decide +kernel) rfl ?_
    refine tq_callS (as := [.int a7]) (st := [.int a6, .ref 16, .int a7, .ref 18]) (d1 := 0) (x1 := 0) (x2 := x) (by decide +kernel) ln_3_44 mf_X3_prime rfl (by decide) np_X3_prime rfl (Nat.le_of_ble_eq_true rfl) (by decide) (Nat.zero_add _).symm (tq_M_mono (am_X3_prime h) ?_)
    refine tq_wl_e (fun r105 z104 h => ?_)
    refine tq_callV (as := [.int a6, .long r105]) (st := [.int a7, .ref 18]) (d1 := 2) (x1 := 0) (x2 := x) (by decide +kernel) ln_3_52 mf_X3_eliminate rfl sh_16 rfl (by decide) np_X3_eliminate rfl (Nat.le_of_ble_eq_true rfl) (by decide) (Nat.zero_add _).symm (tq_M_mono (am_X3_eliminate h) ?_)
    refine tq_wl_e (fun r107 z106 h => ?_)
    refine tq_g_last (by decide +kernel) sh_18 h.1 (fun z108 ez108 => ?_)
    replace h := h.2 z108 ez108
    refine tq_g_iinc (i := 7) (fun v109 => [.ref 16, .ref 1, .long a2, .null, .long a4, .null, .int a6, .int v109, .null, .null, .null]) (by decide +kernel) rfl (1 : Int32) kc_1 (fun _ => rfl) (fun v109 ev109 => ?_)
    replace h := h v109 ev109
    refine tq_s_goto (off := -40) (tgt := 40) (by decide +kernel) (by decide +kernel) ?_
    exact hB40 _ _ h
theorem ac_X3_countCovers_40 {K : Nat × (Nat → Int32)} {x : Nat} {Q : tq_O → tq_S → Prop} {a2 : Int64} {a4 : Int64} {a6 : Int32} {a7 : Int32} {z : tq_S} (h : wc_X3_countCovers_40 Q a2 a4 a6 a7 z) : tq_T K 3 x mm_X3_countCovers 40 [.ref 16, .ref 1, .long a2, .null, .long a4, .null, .int a6, .int a7, .null, .null, .null] [] z Q :=
  tq_lp_T (σ := Int32 × tq_S) (s := (a7, z)) (G := fun s => tq_T K 3 x mm_X3_countCovers 40 [.ref 16, .ref 1, .long a2, .null, .long a4, .null, .int a6, .int s.1, .null, .null, .null] [] s.2 Q) (fun B hB s h => ab_X3_countCovers_40 (fun b7 z h => hB (b7, z) h) h) h
def wm_X3_countCovers  (z : tq_S) (Q : tq_O → tq_S → Prop) : Prop := ∀ v1 : Int64, v1 = ((tq_fl z 67) &&& (-6172840429334713771 : Int64)) → ∀ v2 : Int64, v2 = ((tq_fl z 67) &&& (6172840429334713770 : Int64)) → wm_J13_bitCount_95d88 v1 z (tq_wi fun r4 z3 => wm_J13_bitCount_95d88 v2 z3 (tq_wi fun r6 z5 => ((r4 = r6 → wc_X3_countCovers_40 Q v1 v2 r4 (0 : Int32) z5) ∧ (¬ r4 = r6 → Q (.inl (some (.long (0 : Int64)))) z5))))
theorem am_X3_countCovers {K : Nat × (Nat → Int32)} {x : Nat} {z : tq_S} {Q : tq_O → tq_S → Prop}  (h : wm_X3_countCovers z Q) : tq_M K 3 x mm_X3_countCovers [.ref 16, .ref 1] z Q := by
  unfold wm_X3_countCovers at h
  refine tq_enter (L := [.ref 16, .ref 1, .null, .null, .null, .null, .null, .null, .null, .null, .null]) mf_X3_countCovers.1 rfl rfl (Nat.le_of_ble_eq_true rfl) ?_
  refine tq_s_aload_n (kk := 1) (by decide +kernel) rfl ?_
  refine fg_3_28_1 rfl (by decide +kernel) ?_
  refine tq_s_ldc2 (i := 34) (v := (-6172840429334713771 : Int64)) (by decide +kernel) (by decide +kernel) ?_
  refine tq_s_land (by decide +kernel) ?_
  refine tq_g_lstore_n (kk := 2) (fun v1 => [.ref 16, .ref 1, .long v1, .null, .null, .null, .null, .null, .null, .null, .null]) (by decide +kernel) (by decide) (fun _ => rfl) (fun v1 ev1 => ?_)
  replace h := h v1 ev1
  refine tq_s_aload_n (kk := 1) (by decide +kernel) rfl ?_
  refine fg_3_28_1 rfl (by decide +kernel) ?_
  refine tq_s_ldc2 (i := 36) (v := (6172840429334713770 : Int64)) (by decide +kernel) (by decide +kernel) ?_
  refine tq_s_land (by decide +kernel) ?_
  refine tq_g_lstore (i := 4) (fun v2 => [.ref 16, .ref 1, .long v1, .null, .long v2, .null, .null, .null, .null, .null, .null]) (by decide +kernel) (by decide) (fun _ => rfl) (fun v2 ev2 => ?_)
  replace h := h v2 ev2
  refine tq_s_lload_n (kk := 2) (by decide +kernel) rfl ?_
  refine tq_callS (as := [.long v1]) (st := []) (d1 := 0) (x1 := 0) (x2 := x) (by decide +kernel) ln_3_38 mf_J13_bitCount_95d88 rfl (by decide) np_J13_bitCount_95d88 rfl (Nat.le_of_ble_eq_true rfl) (by decide) (Nat.zero_add _).symm (tq_M_mono (am_J13_bitCount_95d88 h) ?_)
  refine tq_wi_e (fun r4 z3 h => ?_)
  refine tq_s_istore (i := 6) (L9 := [.ref 16, .ref 1, .long v1, .null, .long v2, .null, .int r4, .null, .null, .null, .null]) (by decide +kernel) (by decide) rfl ?_
  refine tq_s_iload (i := 6) (by decide +kernel) rfl ?_
  refine tq_s_lload (i := 4) (by decide +kernel) rfl ?_
  refine tq_callS (as := [.long v2]) (st := [.int r4]) (d1 := 0) (x1 := 0) (x2 := x) (by decide +kernel) ln_3_38 mf_J13_bitCount_95d88 rfl (by decide) np_J13_bitCount_95d88 rfl (Nat.le_of_ble_eq_true rfl) (by decide) (Nat.zero_add _).symm (tq_M_mono (am_J13_bitCount_95d88 h) ?_)
  refine tq_wi_e (fun r6 z5 h => ?_)
  refine tq_icmp_eq (off := 5) (tgt := 37) (by decide +kernel) (by decide +kernel) (fun hc => ?_) (fun hc => ?_)
  · replace h := h.1 hc
    refine tq_k_ic (n := 0) (v := (0 : Int32)) (by decide +kernel) kc_0 ?_
    refine tq_s_istore (i := 7) (L9 := [.ref 16, .ref 1, .long v1, .null, .long v2, .null, .int r4, .int (0 : Int32), .null, .null, .null]) (by decide +kernel) (by decide) rfl ?_
    exact ac_X3_countCovers_40 h
  · replace h := h.2 hc
    refine tq_k_lc (n := 0) (v := (0 : Int64)) (by decide +kernel) (by decide +kernel) ?_
    exact tq_ret_l (st := []) (by decide +kernel) rfl h
def wm_X11_bySigns  (z : tq_S) (Q : tq_O → tq_S → Prop) : Prop := wm_X1_isPlain z (tq_wi fun r2 z1 => ((¬ r2 = 0 → wm_X3_countCovers z1 (tq_wl fun r4 z3 => wm_X11_say r4 z3 (tq_wi fun r6 z5 => Q (.inl (some (.int r6))) z5))) ∧ (r2 = 0 → Q (.inr 4) z1)))
theorem am_X11_bySigns {K : Nat × (Nat → Int32)} {z : tq_S} {Q : tq_O → tq_S → Prop}  (h : wm_X11_bySigns z Q) : tq_M K 5 1 mm_X11_bySigns [.ref 0] z Q := by
  unfold wm_X11_bySigns at h
  refine tq_enter (L := [.ref 0]) mf_X11_bySigns.1 rfl rfl (Nat.le_of_ble_eq_true rfl) ?_
  refine tq_s_aload_n (kk := 0) (by decide +kernel) rfl ?_
  refine fg_11_10_0 rfl (by decide +kernel) ?_
  refine tq_callVN (as := []) (st := []) (d1 := 4) (x1 := 0) (x2 := 1) (by decide +kernel) ln_11_199 mf_X1_isPlain rfl sh_1 rfl (by decide) np_X1_isPlain rfl (Nat.le_of_ble_eq_true rfl) (by decide) (Nat.zero_add _).symm (tq_M_mono (am_X1_isPlain h) ?_)
  refine tq_wi_e (fun r2 z1 h => ?_)
  refine tq_if_ne (off := 13) (tgt := 20) (by decide +kernel) (by decide +kernel) (fun hc => ?_) (fun hc => ?_)
  · replace h := h.1 hc
    refine tq_s_aload_n (kk := 0) (by decide +kernel) rfl ?_
    refine tq_s_aload_n (kk := 0) (by decide +kernel) rfl ?_
    refine fg_11_42_0 rfl (by decide +kernel) ?_
    refine tq_s_aload_n (kk := 0) (by decide +kernel) rfl ?_
    refine fg_11_10_0 rfl (by decide +kernel) ?_
    refine tq_callVN (as := [.ref 1]) (st := [.ref 0]) (d1 := 3) (x1 := 0) (x2 := 1) (by decide +kernel) ln_11_204 mf_X3_countCovers rfl sh_16 rfl (by decide) np_X3_countCovers rfl (Nat.le_of_ble_eq_true rfl) (by decide) (Nat.zero_add _).symm (tq_M_mono (am_X3_countCovers h) ?_)
    refine tq_wl_e (fun r4 z3 h => ?_)
    refine tq_callV (as := [.long r4]) (st := []) (d1 := 3) (x1 := 0) (x2 := 1) (by decide +kernel) ln_11_196 mf_X11_say rfl sh_0 rfl (by decide) np_X11_say rfl (Nat.le_of_ble_eq_true rfl) (by decide) (Nat.zero_add _).symm (tq_M_mono (am_X11_say h) ?_)
    refine tq_wi_e (fun r6 z5 h => ?_)
    exact tq_ret_i (st := []) (by decide +kernel) rfl h
  · replace h := h.2 hc
    exact tq_throwS th_11_159_202 rfl (by decide +kernel) (by decide +kernel) (by decide +kernel) (by decide +kernel) (by decide +kernel) (Nat.le_of_ble_eq_true rfl) rfl (Nat.le_refl 1) h
def wm_X1_rightOf (a1 : Int32) (z : tq_S) (Q : tq_O → tq_S → Prop) : Prop := (((tq_fi z 64) ≤ (a1 + (1 : Int32)) → (((tq_fi z 66) = 0 → Q (.inl (some (.int (-1 : Int32)))) z) ∧ (¬ (tq_fi z 66) = 0 → Q (.inl (some (.int (0 : Int32)))) z))) ∧ (¬ (tq_fi z 64) ≤ (a1 + (1 : Int32)) → Q (.inl (some (.int (a1 + (1 : Int32))))) z))
theorem am_X1_rightOf {K : Nat × (Nat → Int32)} {x : Nat} {z : tq_S} {Q : tq_O → tq_S → Prop} {a1 : Int32} (h : wm_X1_rightOf a1 z Q) : tq_M K 0 x mm_X1_rightOf [.ref 1, .int a1] z Q := by
  unfold wm_X1_rightOf at h
  refine tq_enter (L := [.ref 1, .int a1]) mf_X1_rightOf.1 rfl rfl (Nat.le_of_ble_eq_true rfl) ?_
  refine tq_s_iload_n (kk := 1) (by decide +kernel) rfl ?_
  refine tq_k_ic (n := 1) (v := (1 : Int32)) (by decide +kernel) kc_1 ?_
  refine tq_s_iadd (by decide +kernel) ?_
  refine tq_s_aload_n (kk := 0) (by decide +kernel) rfl ?_
  refine fg_1_7_1 rfl (by decide +kernel) ?_
  refine tq_icmp_ge (off := 7) (tgt := 14) (by decide +kernel) (by decide +kernel) (fun hc => ?_) (fun hc => ?_)
  · replace h := h.1 hc
    refine tq_s_aload_n (kk := 0) (by decide +kernel) rfl ?_
    refine fg_1_16_1 rfl (by decide +kernel) ?_
    refine tq_if_eq (off := 7) (tgt := 25) (by decide +kernel) (by decide +kernel) (fun hc => ?_) (fun hc => ?_)
    · replace h := h.1 hc
      refine tq_k_ic (n := -1) (v := (-1 : Int32)) (by decide +kernel) kc_m1 ?_
      exact tq_ret_i (st := []) (by decide +kernel) rfl h
    · replace h := h.2 hc
      refine tq_k_ic (n := 0) (v := (0 : Int32)) (by decide +kernel) kc_0 ?_
      refine tq_s_goto (off := 4) (tgt := 26) (by decide +kernel) (by decide +kernel) ?_
      exact tq_ret_i (st := []) (by decide +kernel) rfl h
  · replace h := h.2 hc
    refine tq_s_iload_n (kk := 1) (by decide +kernel) rfl ?_
    refine tq_k_ic (n := 1) (v := (1 : Int32)) (by decide +kernel) kc_1 ?_
    refine tq_s_iadd (by decide +kernel) ?_
    exact tq_ret_i (st := []) (by decide +kernel) rfl h
def wm_X1_isPiece (a1 : Int32) (a2 : Int32) (a3 : Int32) (z : tq_S) (Q : tq_O → tq_S → Prop) : Prop := wm_X1_holds a1 a2 z (tq_wi fun r2 z1 => ((¬ r2 = 0 → ((a3 = 0 → wm_X1_holds a1 (a2 + (1 : Int32)) z1 (tq_wi fun r4 z3 => tq_nz r4 ∧ Q (.inl (some (.int r4))) z3)) ∧ (¬ a3 = 0 → wm_X1_rightOf a1 z1 (tq_wi fun r6 z5 => wm_X1_holds r6 a2 z5 (tq_wi fun r8 z7 => tq_nz r8 ∧ Q (.inl (some (.int r8))) z7))))) ∧ (r2 = 0 → Q (.inl (some (.int (0 : Int32)))) z1)))
theorem am_X1_isPiece {K : Nat × (Nat → Int32)} {x : Nat} {z : tq_S} {Q : tq_O → tq_S → Prop} {a1 : Int32} {a2 : Int32} {a3 : Int32} (h : wm_X1_isPiece a1 a2 a3 z Q) : tq_M K 1 x mm_X1_isPiece [.ref 1, .int a1, .int a2, .int a3] z Q := by
  unfold wm_X1_isPiece at h
  refine tq_enter (L := [.ref 1, .int a1, .int a2, .int a3]) mf_X1_isPiece.1 rfl rfl (Nat.le_of_ble_eq_true rfl) ?_
  refine tq_s_aload_n (kk := 0) (by decide +kernel) rfl ?_
  refine tq_s_iload_n (kk := 1) (by decide +kernel) rfl ?_
  refine tq_s_iload_n (kk := 2) (by decide +kernel) rfl ?_
  refine tq_callV (as := [.int a1, .int a2]) (st := []) (d1 := 0) (x1 := 0) (x2 := x) (by decide +kernel) ln_1_47 mf_X1_holds rfl sh_1 rfl (by decide) np_X1_holds rfl (Nat.le_of_ble_eq_true rfl) (by decide) (Nat.zero_add _).symm (tq_M_mono (am_X1_holds h) ?_)
  refine tq_wi_e (fun r2 z1 h => ?_)
  refine tq_if_ne (off := 5) (tgt := 11) (by decide +kernel) (by decide +kernel) (fun hc => ?_) (fun hc => ?_)
  · replace h := h.1 hc
    refine tq_s_iload_n (kk := 3) (by decide +kernel) rfl ?_
    refine tq_if_eq (off := 16) (tgt := 28) (by decide +kernel) (by decide +kernel) (fun hc => ?_) (fun hc => ?_)
    · replace h := h.1 hc
      refine tq_s_aload_n (kk := 0) (by decide +kernel) rfl ?_
      refine tq_s_iload_n (kk := 1) (by decide +kernel) rfl ?_
      refine tq_s_iload_n (kk := 2) (by decide +kernel) rfl ?_
      refine tq_k_ic (n := 1) (v := (1 : Int32)) (by decide +kernel) kc_1 ?_
      refine tq_s_iadd (by decide +kernel) ?_
      refine tq_callV (as := [.int a1, .int (a2 + (1 : Int32))]) (st := []) (d1 := 0) (x1 := 0) (x2 := x) (by decide +kernel) ln_1_47 mf_X1_holds rfl sh_1 rfl (by decide) np_X1_holds rfl (Nat.le_of_ble_eq_true rfl) (by decide) (Nat.zero_add _).symm (tq_M_mono (am_X1_holds h) ?_)
      refine tq_wi_e (fun r4 z3 h => ?_)
      exact tq_ret_z (st := []) (ty := .boolean) (by decide +kernel) (tq_nz_f h.1).1 rfl h.2
    · replace h := h.2 hc
      refine tq_s_aload_n (kk := 0) (by decide +kernel) rfl ?_
      refine tq_s_aload_n (kk := 0) (by decide +kernel) rfl ?_
      refine tq_s_iload_n (kk := 1) (by decide +kernel) rfl ?_
      refine tq_callV (as := [.int a1]) (st := [.ref 1]) (d1 := 0) (x1 := 0) (x2 := x) (by decide +kernel) ln_1_51 mf_X1_rightOf rfl sh_1 rfl (by decide) np_X1_rightOf rfl (Nat.le_of_ble_eq_true rfl) (by decide) (Nat.zero_add _).symm (tq_M_mono (am_X1_rightOf h) ?_)
      refine tq_wi_e (fun r6 z5 h => ?_)
      refine tq_s_iload_n (kk := 2) (by decide +kernel) rfl ?_
      refine tq_callV (as := [.int r6, .int a2]) (st := []) (d1 := 0) (x1 := 0) (x2 := x) (by decide +kernel) ln_1_47 mf_X1_holds rfl sh_1 rfl (by decide) np_X1_holds rfl (Nat.le_of_ble_eq_true rfl) (by decide) (Nat.zero_add _).symm (tq_M_mono (am_X1_holds h) ?_)
      refine tq_wi_e (fun r8 z7 h => ?_)
      refine tq_s_goto (off := 11) (tgt := 36) (by decide +kernel) (by decide +kernel) ?_
      exact tq_ret_z (st := []) (ty := .boolean) (by decide +kernel) (tq_nz_f h.1).1 rfl h.2
  · replace h := h.2 hc
    refine tq_k_ic (n := 0) (v := (0 : Int32)) (by decide +kernel) kc_0 ?_
    exact tq_ret_z (st := []) (ty := .boolean) (by decide +kernel) (by decide +kernel) rfl h
def wb_J7_fill_d0a16_r2_6 (B6 : Int32 → tq_S → Prop) (Q : tq_O → tq_S → Prop) (a1 : Int64) (a3 : Int32) (a4 : Int32) (z : tq_S) : Prop := ((a4 ≤ a3 → Q (.inl none) z) ∧ (¬ a4 ≤ a3 → vp_in a3 128 ∧ ∀ z101 : tq_S, z101 = tq_sal z 7 (vp_updL (tq_al z 7) (Int32.toNatClampNeg a3) a1) → ∀ v102 : Int32, v102 = a3 + (1 : Int32) → B6 v102 z101))
def wc_J7_fill_d0a16_r2_6 (Q : tq_O → tq_S → Prop) (a1 : Int64) (a3 : Int32) (a4 : Int32) (z : tq_S) : Prop := tq_lp (σ := Int32 × tq_S) (fun B s => wb_J7_fill_d0a16_r2_6 (fun b3 z => B (b3, z)) Q a1 s.1 a4 s.2) (a3, z)
theorem ab_J7_fill_d0a16_r2_6 {K : Nat × (Nat → Int32)} {x : Nat} {Q : tq_O → tq_S → Prop} {B6 : Int32 → tq_S → Prop} {a1 : Int64} {a3 : Int32} {a4 : Int32} {z : tq_S} (hB6 : ∀ (b3 : Int32) (z : tq_S), B6 b3 z → tq_T K 0 x mm_J7_fill_d0a16 6 [.ref 7, .long a1, .null, .int b3, .int a4] [] z Q) (h : wb_J7_fill_d0a16_r2_6 B6 Q a1 a3 a4 z) : tq_T K 0 x mm_J7_fill_d0a16 6 [.ref 7, .long a1, .null, .int a3, .int a4] [] z Q := by
  unfold wb_J7_fill_d0a16_r2_6 at h
  refine tq_s_iload_n (kk := 3) (by decide +kernel) rfl ?_
  refine tq_s_iload (i := 4) (by decide +kernel) rfl ?_
  refine tq_icmp_ge (off := 13) (tgt := 22) (by decide +kernel) (by decide +kernel) (fun hc => ?_) (fun hc => ?_)
  · replace h := h.1 hc
    exact tq_ret_v (st := []) (by decide +kernel) rfl h
  · replace h := h.2 hc
    refine tq_s_aload_n (kk := 0) (by decide +kernel) rfl ?_
    refine tq_s_iload_n (kk := 3) (by decide +kernel) rfl ?_
    refine tq_s_lload_n (kk := 1) (by decide +kernel) rfl ?_
    refine tq_g_last (by decide +kernel) sh_7 h.1 (fun z101 ez101 => ?_)
    replace h := h.2 z101 ez101
    refine tq_g_iinc (i := 3) (fun v102 => [.ref 7, .long a1, .null, .int v102, .int a4]) (by decide +kernel) rfl (1 : Int32) kc_1 (fun _ => rfl) (fun v102 ev102 => ?_)
    replace h := h v102 ev102
    refine tq_s_goto (off := -13) (tgt := 6) (by decide +kernel) (by decide +kernel) ?_
    exact hB6 _ _ h
theorem ac_J7_fill_d0a16_r2_6 {K : Nat × (Nat → Int32)} {x : Nat} {Q : tq_O → tq_S → Prop} {a1 : Int64} {a3 : Int32} {a4 : Int32} {z : tq_S} (h : wc_J7_fill_d0a16_r2_6 Q a1 a3 a4 z) : tq_T K 0 x mm_J7_fill_d0a16 6 [.ref 7, .long a1, .null, .int a3, .int a4] [] z Q :=
  tq_lp_T (σ := Int32 × tq_S) (s := (a3, z)) (G := fun s => tq_T K 0 x mm_J7_fill_d0a16 6 [.ref 7, .long a1, .null, .int s.1, .int a4] [] s.2 Q) (fun B hB s h => ab_J7_fill_d0a16_r2_6 (fun b3 z h => hB (b3, z) h) h) h
def wm_J7_fill_d0a16_r2 (a1 : Int64) (z : tq_S) (Q : tq_O → tq_S → Prop) : Prop := ∀ v1 : Int32, v1 = (Int32.ofNat 128) → wc_J7_fill_d0a16_r2_6 Q a1 (0 : Int32) v1 z
theorem am_J7_fill_d0a16_r2 {K : Nat × (Nat → Int32)} {x : Nat} {z : tq_S} {Q : tq_O → tq_S → Prop} {a1 : Int64} (h : wm_J7_fill_d0a16_r2 a1 z Q) : tq_M K 0 x mm_J7_fill_d0a16 [.ref 7, .long a1] z Q := by
  unfold wm_J7_fill_d0a16_r2 at h
  refine tq_enter (L := [.ref 7, .long a1, .null, .null, .null]) mf_J7_fill_d0a16.1 rfl rfl (Nat.le_of_ble_eq_true rfl) ?_
  refine tq_k_ic (n := 0) (v := (0 : Int32)) (by decide +kernel) kc_0 ?_
  refine tq_s_istore_n (kk := 3) (L9 := [.ref 7, .long a1, .null, .int (0 : Int32), .null]) (by decide +kernel) (by decide) rfl ?_
  refine tq_s_aload_n (kk := 0) (by decide +kernel) rfl ?_
  refine tq_s_alen (by decide +kernel) sh_7 (by decide) ?_
  refine tq_g_istore (i := 4) (fun v1 => [.ref 7, .long a1, .null, .int (0 : Int32), .int v1]) (by decide +kernel) (by decide) (fun _ => rfl) (fun v1 ev1 => ?_)
  replace h := h v1 ev1
  exact ac_J7_fill_d0a16_r2_6 h
def wb_J7_fill_d0a16_r3_6 (B6 : Int32 → tq_S → Prop) (Q : tq_O → tq_S → Prop) (a1 : Int64) (a3 : Int32) (a4 : Int32) (z : tq_S) : Prop := ((a4 ≤ a3 → Q (.inl none) z) ∧ (¬ a4 ≤ a3 → vp_in a3 512 ∧ ∀ z101 : tq_S, z101 = tq_sal z 5 (vp_updL (tq_al z 5) (Int32.toNatClampNeg a3) a1) → ∀ v102 : Int32, v102 = a3 + (1 : Int32) → B6 v102 z101))
def wc_J7_fill_d0a16_r3_6 (Q : tq_O → tq_S → Prop) (a1 : Int64) (a3 : Int32) (a4 : Int32) (z : tq_S) : Prop := tq_lp (σ := Int32 × tq_S) (fun B s => wb_J7_fill_d0a16_r3_6 (fun b3 z => B (b3, z)) Q a1 s.1 a4 s.2) (a3, z)
theorem ab_J7_fill_d0a16_r3_6 {K : Nat × (Nat → Int32)} {x : Nat} {Q : tq_O → tq_S → Prop} {B6 : Int32 → tq_S → Prop} {a1 : Int64} {a3 : Int32} {a4 : Int32} {z : tq_S} (hB6 : ∀ (b3 : Int32) (z : tq_S), B6 b3 z → tq_T K 0 x mm_J7_fill_d0a16 6 [.ref 5, .long a1, .null, .int b3, .int a4] [] z Q) (h : wb_J7_fill_d0a16_r3_6 B6 Q a1 a3 a4 z) : tq_T K 0 x mm_J7_fill_d0a16 6 [.ref 5, .long a1, .null, .int a3, .int a4] [] z Q := by
  unfold wb_J7_fill_d0a16_r3_6 at h
  refine tq_s_iload_n (kk := 3) (by decide +kernel) rfl ?_
  refine tq_s_iload (i := 4) (by decide +kernel) rfl ?_
  refine tq_icmp_ge (off := 13) (tgt := 22) (by decide +kernel) (by decide +kernel) (fun hc => ?_) (fun hc => ?_)
  · replace h := h.1 hc
    exact tq_ret_v (st := []) (by decide +kernel) rfl h
  · replace h := h.2 hc
    refine tq_s_aload_n (kk := 0) (by decide +kernel) rfl ?_
    refine tq_s_iload_n (kk := 3) (by decide +kernel) rfl ?_
    refine tq_s_lload_n (kk := 1) (by decide +kernel) rfl ?_
    refine tq_g_last (by decide +kernel) sh_5 h.1 (fun z101 ez101 => ?_)
    replace h := h.2 z101 ez101
    refine tq_g_iinc (i := 3) (fun v102 => [.ref 5, .long a1, .null, .int v102, .int a4]) (by decide +kernel) rfl (1 : Int32) kc_1 (fun _ => rfl) (fun v102 ev102 => ?_)
    replace h := h v102 ev102
    refine tq_s_goto (off := -13) (tgt := 6) (by decide +kernel) (by decide +kernel) ?_
    exact hB6 _ _ h
theorem ac_J7_fill_d0a16_r3_6 {K : Nat × (Nat → Int32)} {x : Nat} {Q : tq_O → tq_S → Prop} {a1 : Int64} {a3 : Int32} {a4 : Int32} {z : tq_S} (h : wc_J7_fill_d0a16_r3_6 Q a1 a3 a4 z) : tq_T K 0 x mm_J7_fill_d0a16 6 [.ref 5, .long a1, .null, .int a3, .int a4] [] z Q :=
  tq_lp_T (σ := Int32 × tq_S) (s := (a3, z)) (G := fun s => tq_T K 0 x mm_J7_fill_d0a16 6 [.ref 5, .long a1, .null, .int s.1, .int a4] [] s.2 Q) (fun B hB s h => ab_J7_fill_d0a16_r3_6 (fun b3 z h => hB (b3, z) h) h) h
def wm_J7_fill_d0a16_r3 (a1 : Int64) (z : tq_S) (Q : tq_O → tq_S → Prop) : Prop := ∀ v1 : Int32, v1 = (Int32.ofNat 512) → wc_J7_fill_d0a16_r3_6 Q a1 (0 : Int32) v1 z
theorem am_J7_fill_d0a16_r3 {K : Nat × (Nat → Int32)} {x : Nat} {z : tq_S} {Q : tq_O → tq_S → Prop} {a1 : Int64} (h : wm_J7_fill_d0a16_r3 a1 z Q) : tq_M K 0 x mm_J7_fill_d0a16 [.ref 5, .long a1] z Q := by
  unfold wm_J7_fill_d0a16_r3 at h
  refine tq_enter (L := [.ref 5, .long a1, .null, .null, .null]) mf_J7_fill_d0a16.1 rfl rfl (Nat.le_of_ble_eq_true rfl) ?_
  refine tq_k_ic (n := 0) (v := (0 : Int32)) (by decide +kernel) kc_0 ?_
  refine tq_s_istore_n (kk := 3) (L9 := [.ref 5, .long a1, .null, .int (0 : Int32), .null]) (by decide +kernel) (by decide) rfl ?_
  refine tq_s_aload_n (kk := 0) (by decide +kernel) rfl ?_
  refine tq_s_alen (by decide +kernel) sh_5 (by decide) ?_
  refine tq_g_istore (i := 4) (fun v1 => [.ref 5, .long a1, .null, .int (0 : Int32), .int v1]) (by decide +kernel) (by decide) (fun _ => rfl) (fun v1 ev1 => ?_)
  replace h := h v1 ev1
  exact ac_J7_fill_d0a16_r3_6 h
def wb_J7_fill_d0a16_r4_6 (B6 : Int32 → tq_S → Prop) (Q : tq_O → tq_S → Prop) (a1 : Int64) (a3 : Int32) (a4 : Int32) (z : tq_S) : Prop := ((a4 ≤ a3 → Q (.inl none) z) ∧ (¬ a4 ≤ a3 → vp_in a3 512 ∧ ∀ z101 : tq_S, z101 = tq_sal z 6 (vp_updL (tq_al z 6) (Int32.toNatClampNeg a3) a1) → ∀ v102 : Int32, v102 = a3 + (1 : Int32) → B6 v102 z101))
def wc_J7_fill_d0a16_r4_6 (Q : tq_O → tq_S → Prop) (a1 : Int64) (a3 : Int32) (a4 : Int32) (z : tq_S) : Prop := tq_lp (σ := Int32 × tq_S) (fun B s => wb_J7_fill_d0a16_r4_6 (fun b3 z => B (b3, z)) Q a1 s.1 a4 s.2) (a3, z)
theorem ab_J7_fill_d0a16_r4_6 {K : Nat × (Nat → Int32)} {x : Nat} {Q : tq_O → tq_S → Prop} {B6 : Int32 → tq_S → Prop} {a1 : Int64} {a3 : Int32} {a4 : Int32} {z : tq_S} (hB6 : ∀ (b3 : Int32) (z : tq_S), B6 b3 z → tq_T K 0 x mm_J7_fill_d0a16 6 [.ref 6, .long a1, .null, .int b3, .int a4] [] z Q) (h : wb_J7_fill_d0a16_r4_6 B6 Q a1 a3 a4 z) : tq_T K 0 x mm_J7_fill_d0a16 6 [.ref 6, .long a1, .null, .int a3, .int a4] [] z Q := by
  unfold wb_J7_fill_d0a16_r4_6 at h
  refine tq_s_iload_n (kk := 3) (by decide +kernel) rfl ?_
  refine tq_s_iload (i := 4) (by decide +kernel) rfl ?_
  refine tq_icmp_ge (off := 13) (tgt := 22) (by decide +kernel) (by decide +kernel) (fun hc => ?_) (fun hc => ?_)
  · replace h := h.1 hc
    exact tq_ret_v (st := []) (by decide +kernel) rfl h
  · replace h := h.2 hc
    refine tq_s_aload_n (kk := 0) (by decide +kernel) rfl ?_
    refine tq_s_iload_n (kk := 3) (by decide +kernel) rfl ?_
    refine tq_s_lload_n (kk := 1) (by decide +kernel) rfl ?_
    refine tq_g_last (by decide +kernel) sh_6 h.1 (fun z101 ez101 => ?_)
    replace h := h.2 z101 ez101
    refine tq_g_iinc (i := 3) (fun v102 => [.ref 6, .long a1, .null, .int v102, .int a4]) (by decide +kernel) rfl (1 : Int32) kc_1 (fun _ => rfl) (fun v102 ev102 => ?_)
    replace h := h v102 ev102
    refine tq_s_goto (off := -13) (tgt := 6) (by decide +kernel) (by decide +kernel) ?_
    exact hB6 _ _ h
theorem ac_J7_fill_d0a16_r4_6 {K : Nat × (Nat → Int32)} {x : Nat} {Q : tq_O → tq_S → Prop} {a1 : Int64} {a3 : Int32} {a4 : Int32} {z : tq_S} (h : wc_J7_fill_d0a16_r4_6 Q a1 a3 a4 z) : tq_T K 0 x mm_J7_fill_d0a16 6 [.ref 6, .long a1, .null, .int a3, .int a4] [] z Q :=
  tq_lp_T (σ := Int32 × tq_S) (s := (a3, z)) (G := fun s => tq_T K 0 x mm_J7_fill_d0a16 6 [.ref 6, .long a1, .null, .int s.1, .int a4] [] s.2 Q) (fun B hB s h => ab_J7_fill_d0a16_r4_6 (fun b3 z h => hB (b3, z) h) h) h
def wm_J7_fill_d0a16_r4 (a1 : Int64) (z : tq_S) (Q : tq_O → tq_S → Prop) : Prop := ∀ v1 : Int32, v1 = (Int32.ofNat 512) → wc_J7_fill_d0a16_r4_6 Q a1 (0 : Int32) v1 z
theorem am_J7_fill_d0a16_r4 {K : Nat × (Nat → Int32)} {x : Nat} {z : tq_S} {Q : tq_O → tq_S → Prop} {a1 : Int64} (h : wm_J7_fill_d0a16_r4 a1 z Q) : tq_M K 0 x mm_J7_fill_d0a16 [.ref 6, .long a1] z Q := by
  unfold wm_J7_fill_d0a16_r4 at h
  refine tq_enter (L := [.ref 6, .long a1, .null, .null, .null]) mf_J7_fill_d0a16.1 rfl rfl (Nat.le_of_ble_eq_true rfl) ?_
  refine tq_k_ic (n := 0) (v := (0 : Int32)) (by decide +kernel) kc_0 ?_
  refine tq_s_istore_n (kk := 3) (L9 := [.ref 6, .long a1, .null, .int (0 : Int32), .null]) (by decide +kernel) (by decide) rfl ?_
  refine tq_s_aload_n (kk := 0) (by decide +kernel) rfl ?_
  refine tq_s_alen (by decide +kernel) sh_6 (by decide) ?_
  refine tq_g_istore (i := 4) (fun v1 => [.ref 6, .long a1, .null, .int (0 : Int32), .int v1]) (by decide +kernel) (by decide) (fun _ => rfl) (fun v1 ev1 => ?_)
  replace h := h v1 ev1
  exact ac_J7_fill_d0a16_r4_6 h
def wc_X5_goOn_166 (B26 : Int32 → tq_S → Prop) (B37 : Int32 → tq_S → Prop) (Q : tq_O → tq_S → Prop) (a1 : Int32) (a2 : Int32) (a3 : Int32) (a4 : Int32) (a5 : Int32) (a6 : Int32) (z : tq_S) : Prop := ∀ v101 : Int32, v101 = a6 + (1 : Int32) → B37 v101 z
theorem ac_X5_goOn_166 {K : Nat × (Nat → Int32)} {x : Nat} {Q : tq_O → tq_S → Prop} {B26 : Int32 → tq_S → Prop} {B37 : Int32 → tq_S → Prop} {a1 : Int32} {a2 : Int32} {a3 : Int32} {a4 : Int32} {a5 : Int32} {a6 : Int32} {z : tq_S} (hB26 : ∀ (b5 : Int32) (z : tq_S), B26 b5 z → tq_T K 1 x mm_X5_goOn 26 [.ref 2, .int a1, .int a2, .int a3, .int a4, .int b5, .null, .null, .null, .null] [] z Q) (hB37 : ∀ (b6 : Int32) (z : tq_S), B37 b6 z → tq_T K 1 x mm_X5_goOn 37 [.ref 2, .int a1, .int a2, .int a3, .int a4, .int a5, .int b6, .null, .null, .null] [] z Q) (h : wc_X5_goOn_166 B26 B37 Q a1 a2 a3 a4 a5 a6 z) : tq_T K 1 x mm_X5_goOn 166 [.ref 2, .int a1, .int a2, .int a3, .int a4, .int a5, .int a6, .null, .null, .null] [] z Q := by
  unfold wc_X5_goOn_166 at h
  refine tq_g_iinc (i := 6) (fun v101 => [.ref 2, .int a1, .int a2, .int a3, .int a4, .int a5, .int v101, .null, .null, .null]) (by decide +kernel) rfl (1 : Int32) kc_1 (fun _ => rfl) (fun v101 ev101 => ?_)
  replace h := h v101 ev101
  refine tq_s_goto (off := -132) (tgt := 37) (by decide +kernel) (by decide +kernel) ?_
  exact hB37 _ _ h
def wc_X5_goOn_135 (B26 : Int32 → tq_S → Prop) (B37 : Int32 → tq_S → Prop) (Q : tq_O → tq_S → Prop) (a1 : Int32) (a2 : Int32) (a3 : Int32) (a4 : Int32) (a5 : Int32) (a6 : Int32) (a8 : Int64) (s0 : Int32) (s1 : Int32) (z : tq_S) : Prop := vp_in (s1 * s0) 128 ∧ vp_in (s1 * s0) 128 ∧ ∀ z101 : tq_S, z101 = tq_sal z 7 (vp_updL (tq_al z 7) (Int32.toNatClampNeg (s1 * s0)) ((tq_al z 7 (Int32.toNatClampNeg (s1 * s0))) + a8)) → wc_X5_goOn_166 B26 B37 Q a1 a2 a3 a4 a5 a6 z101
theorem ac_X5_goOn_135 {K : Nat × (Nat → Int32)} {x : Nat} {Q : tq_O → tq_S → Prop} {B26 : Int32 → tq_S → Prop} {B37 : Int32 → tq_S → Prop} {a1 : Int32} {a2 : Int32} {a3 : Int32} {a4 : Int32} {a5 : Int32} {a6 : Int32} {a8 : Int64} {s0 : Int32} {s1 : Int32} {z : tq_S} (hB26 : ∀ (b5 : Int32) (z : tq_S), B26 b5 z → tq_T K 1 x mm_X5_goOn 26 [.ref 2, .int a1, .int a2, .int a3, .int a4, .int b5, .null, .null, .null, .null] [] z Q) (hB37 : ∀ (b6 : Int32) (z : tq_S), B37 b6 z → tq_T K 1 x mm_X5_goOn 37 [.ref 2, .int a1, .int a2, .int a3, .int a4, .int a5, .int b6, .null, .null, .null] [] z Q) (h : wc_X5_goOn_135 B26 B37 Q a1 a2 a3 a4 a5 a6 a8 s0 s1 z) : tq_T K 1 x mm_X5_goOn 135 [.ref 2, .int a1, .int a2, .int a3, .int a4, .int a5, .int a6, .null, .long a8, .null] [.int s0, .int s1, .ref 7] z Q := by
  unfold wc_X5_goOn_135 at h
  refine tq_s_imul (by decide +kernel) ?_
  refine tq_s_dup2_11 (by decide +kernel) rfl rfl ?_
  refine tq_s_lald (by decide +kernel) sh_7 h.1 ?_
  replace h := h.2
  refine tq_s_lload (i := 8) (by decide +kernel) rfl ?_
  refine tq_s_ladd (by decide +kernel) ?_
  refine tq_g_last (by decide +kernel) sh_7 h.1 (fun z101 ez101 => ?_)
  replace h := h.2 z101 ez101
  refine tq_s_goto (off := 24) (tgt := 166) (by decide +kernel) (by decide +kernel) ?_
  exact tq_to (tq_lk1 (tq_lk1 (tq_lk1 (tq_lk1 (tq_lk1 (tq_lk1 (tq_lk1 (tq_lk1 (tq_ld1 (tq_lk1 tq_l0)))))))))) (ac_X5_goOn_166 hB26 hB37 h)
def wc_X5_goOn_118 (B26 : Int32 → tq_S → Prop) (B37 : Int32 → tq_S → Prop) (Q : tq_O → tq_S → Prop) (a1 : Int32) (a2 : Int32) (a3 : Int32) (a4 : Int32) (a5 : Int32) (a6 : Int32) (a8 : Int64) (z : tq_S) : Prop := ((¬ a6 = (1 : Int32) → wc_X5_goOn_135 B26 B37 Q a1 a2 a3 a4 a5 a6 a8 a4 (2 : Int32) z) ∧ (a6 = (1 : Int32) → wc_X5_goOn_135 B26 B37 Q a1 a2 a3 a4 a5 a6 a8 a3 (2 : Int32) z))
theorem ac_X5_goOn_118 {K : Nat × (Nat → Int32)} {x : Nat} {Q : tq_O → tq_S → Prop} {B26 : Int32 → tq_S → Prop} {B37 : Int32 → tq_S → Prop} {a1 : Int32} {a2 : Int32} {a3 : Int32} {a4 : Int32} {a5 : Int32} {a6 : Int32} {a8 : Int64} {z : tq_S} (hB26 : ∀ (b5 : Int32) (z : tq_S), B26 b5 z → tq_T K 1 x mm_X5_goOn 26 [.ref 2, .int a1, .int a2, .int a3, .int a4, .int b5, .null, .null, .null, .null] [] z Q) (hB37 : ∀ (b6 : Int32) (z : tq_S), B37 b6 z → tq_T K 1 x mm_X5_goOn 37 [.ref 2, .int a1, .int a2, .int a3, .int a4, .int a5, .int b6, .null, .null, .null] [] z Q) (h : wc_X5_goOn_118 B26 B37 Q a1 a2 a3 a4 a5 a6 a8 z) : tq_T K 1 x mm_X5_goOn 118 [.ref 2, .int a1, .int a2, .int a3, .int a4, .int a5, .int a6, .null, .long a8, .null] [] z Q := by
  unfold wc_X5_goOn_118 at h
  refine tq_s_aload_n (kk := 0) (by decide +kernel) rfl ?_
  refine fg_5_28_2 rfl (by decide +kernel) ?_
  refine tq_k_ic (n := 2) (v := (2 : Int32)) (by decide +kernel) kc_2 ?_
  refine tq_s_iload (i := 6) (by decide +kernel) rfl ?_
  refine tq_k_ic (n := 1) (v := (1 : Int32)) (by decide +kernel) kc_1 ?_
  refine tq_icmp_ne (off := 7) (tgt := 133) (by decide +kernel) (by decide +kernel) (fun hc => ?_) (fun hc => ?_)
  · replace h := h.1 hc
    refine tq_s_iload (i := 4) (by decide +kernel) rfl ?_
    exact ac_X5_goOn_135 hB26 hB37 h
  · replace h := h.2 hc
    refine tq_s_iload_n (kk := 3) (by decide +kernel) rfl ?_
    refine tq_s_goto (off := 5) (tgt := 135) (by decide +kernel) (by decide +kernel) ?_
    exact ac_X5_goOn_135 hB26 hB37 h
def wc_X5_goOn_172 (B26 : Int32 → tq_S → Prop) (Q : tq_O → tq_S → Prop) (a1 : Int32) (a2 : Int32) (a3 : Int32) (a4 : Int32) (a5 : Int32) (z : tq_S) : Prop := ∀ v101 : Int32, v101 = a5 + (1 : Int32) → B26 v101 z
theorem ac_X5_goOn_172 {K : Nat × (Nat → Int32)} {x : Nat} {Q : tq_O → tq_S → Prop} {B26 : Int32 → tq_S → Prop} {a1 : Int32} {a2 : Int32} {a3 : Int32} {a4 : Int32} {a5 : Int32} {z : tq_S} (hB26 : ∀ (b5 : Int32) (z : tq_S), B26 b5 z → tq_T K 1 x mm_X5_goOn 26 [.ref 2, .int a1, .int a2, .int a3, .int a4, .int b5, .null, .null, .null, .null] [] z Q) (h : wc_X5_goOn_172 B26 Q a1 a2 a3 a4 a5 z) : tq_T K 1 x mm_X5_goOn 172 [.ref 2, .int a1, .int a2, .int a3, .int a4, .int a5, .null, .null, .null, .null] [] z Q := by
  unfold wc_X5_goOn_172 at h
  refine tq_g_iinc (i := 5) (fun v101 => [.ref 2, .int a1, .int a2, .int a3, .int a4, .int v101, .null, .null, .null, .null]) (by decide +kernel) rfl (1 : Int32) kc_1 (fun _ => rfl) (fun v101 ev101 => ?_)
  replace h := h v101 ev101
  refine tq_s_goto (off := -149) (tgt := 26) (by decide +kernel) (by decide +kernel) ?_
  exact hB26 _ _ h
def wb_X5_goOn_37 (B26 : Int32 → tq_S → Prop) (B37 : Int32 → tq_S → Prop) (Q : tq_O → tq_S → Prop) (a1 : Int32) (a2 : Int32) (a3 : Int32) (a4 : Int32) (a5 : Int32) (a6 : Int32) (z : tq_S) : Prop := (((4 : Int32) ≤ a6 → wc_X5_goOn_172 B26 Q a1 a2 a3 a4 a5 z) ∧ (¬ (4 : Int32) ≤ a6 → vp_in a5 512 ∧ (((tq_al z 5 (Int32.toNatClampNeg a5)) = (0 : Int64) → wc_X5_goOn_172 B26 Q a1 a2 a3 a4 a5 z) ∧ (¬ (tq_al z 5 (Int32.toNatClampNeg a5)) = (0 : Int64) → wm_X5_after a1 a2 a5 a6 z (tq_wi fun r102 z101 => ((r102 < 0 → wc_X5_goOn_166 B26 B37 Q a1 a2 a3 a4 a5 a6 z101) ∧ (¬ r102 < 0 → vp_in r102 512 ∧ vp_in a5 512 ∧ vp_in r102 512 ∧ ∀ z103 : tq_S, z103 = tq_sal z101 6 (vp_updL (tq_al z101 6) (Int32.toNatClampNeg r102) ((tq_al z101 6 (Int32.toNatClampNeg r102)) + (tq_al z101 5 (Int32.toNatClampNeg a5)))) → vp_in a5 512 ∧ wm_X5_onward a1 r102 z103 (tq_wl fun r105 z104 => ∀ v106 : Int64, v106 = ((tq_al z103 5 (Int32.toNatClampNeg a5)) * r105) → ((a6 = (1 : Int32) → wc_X5_goOn_118 B26 B37 Q a1 a2 a3 a4 a5 a6 v106 z104) ∧ (¬ a6 = (1 : Int32) → ((¬ a6 = (3 : Int32) → ((¬ a6 = (2 : Int32) → wc_X5_goOn_166 B26 B37 Q a1 a2 a3 a4 a5 a6 z104) ∧ (a6 = (2 : Int32) → vp_in (((2 : Int32) * a3) + (1 : Int32)) 128 ∧ vp_in (((2 : Int32) * a3) + (1 : Int32)) 128 ∧ ∀ z107 : tq_S, z107 = tq_sal z104 7 (vp_updL (tq_al z104 7) (Int32.toNatClampNeg (((2 : Int32) * a3) + (1 : Int32))) ((tq_al z104 7 (Int32.toNatClampNeg (((2 : Int32) * a3) + (1 : Int32)))) + v106)) → wc_X5_goOn_166 B26 B37 Q a1 a2 a3 a4 a5 a6 z107))) ∧ (a6 = (3 : Int32) → wc_X5_goOn_118 B26 B37 Q a1 a2 a3 a4 a5 a6 v106 z104))))))))))))
def wc_X5_goOn_37 (B26 : Int32 → tq_S → Prop) (Q : tq_O → tq_S → Prop) (a1 : Int32) (a2 : Int32) (a3 : Int32) (a4 : Int32) (a5 : Int32) (a6 : Int32) (z : tq_S) : Prop := tq_lp (σ := Int32 × tq_S) (fun B s => wb_X5_goOn_37 B26 (fun b6 z => B (b6, z)) Q a1 a2 a3 a4 a5 s.1 s.2) (a6, z)
theorem ab_X5_goOn_37 {K : Nat × (Nat → Int32)} {x : Nat} {Q : tq_O → tq_S → Prop} {B26 : Int32 → tq_S → Prop} {B37 : Int32 → tq_S → Prop} {a1 : Int32} {a2 : Int32} {a3 : Int32} {a4 : Int32} {a5 : Int32} {a6 : Int32} {z : tq_S} (hB26 : ∀ (b5 : Int32) (z : tq_S), B26 b5 z → tq_T K 1 x mm_X5_goOn 26 [.ref 2, .int a1, .int a2, .int a3, .int a4, .int b5, .null, .null, .null, .null] [] z Q) (hB37 : ∀ (b6 : Int32) (z : tq_S), B37 b6 z → tq_T K 1 x mm_X5_goOn 37 [.ref 2, .int a1, .int a2, .int a3, .int a4, .int a5, .int b6, .null, .null, .null] [] z Q) (h : wb_X5_goOn_37 B26 B37 Q a1 a2 a3 a4 a5 a6 z) : tq_T K 1 x mm_X5_goOn 37 [.ref 2, .int a1, .int a2, .int a3, .int a4, .int a5, .int a6, .null, .null, .null] [] z Q := by
  unfold wb_X5_goOn_37 at h
  refine tq_s_iload (i := 6) (by decide +kernel) rfl ?_
  refine tq_k_ic (n := 4) (v := (4 : Int32)) (by decide +kernel) kc_4 ?_
  refine tq_icmp_ge (off := 132) (tgt := 172) (by decide +kernel) (by decide +kernel) (fun hc => ?_) (fun hc => ?_)
  · replace h := h.1 hc
    exact tq_to (tq_lk1 (tq_lk1 (tq_lk1 (tq_lk1 (tq_lk1 (tq_lk1 (tq_ld1 (tq_lk1 (tq_lk1 (tq_lk1 tq_l0)))))))))) (ac_X5_goOn_172 hB26 h)
  · replace h := h.2 hc
    refine tq_s_aload_n (kk := 0) (by decide +kernel) rfl ?_
    refine fg_5_22_2 rfl (by decide +kernel) ?_
    refine tq_s_iload (i := 5) (by decide +kernel) rfl ?_
    refine tq_s_lald (by decide +kernel) sh_5 h.1 ?_
    replace h := h.2
    refine tq_k_lc (n := 0) (v := (0 : Int64)) (by decide +kernel) (by decide +kernel) ?_
    refine tq_lcmp_eq (off := 120) (tgt := 172) (by decide +kernel) (by decide +kernel) (by decide +kernel) (fun hc => ?_) (fun hc => ?_)
    · replace h := h.1 hc
      exact tq_to (tq_lk1 (tq_lk1 (tq_lk1 (tq_lk1 (tq_lk1 (tq_lk1 (tq_ld1 (tq_lk1 (tq_lk1 (tq_lk1 tq_l0)))))))))) (ac_X5_goOn_172 hB26 h)
    · replace h := h.2 hc
      refine tq_s_aload_n (kk := 0) (by decide +kernel) rfl ?_
      refine tq_s_iload_n (kk := 1) (by decide +kernel) rfl ?_
      refine tq_s_iload_n (kk := 2) (by decide +kernel) rfl ?_
      refine tq_s_iload (i := 5) (by decide +kernel) rfl ?_
      refine tq_s_iload (i := 6) (by decide +kernel) rfl ?_
      refine tq_callV (as := [.int a1, .int a2, .int a5, .int a6]) (st := []) (d1 := 0) (x1 := 0) (x2 := x) (by decide +kernel) ln_5_81 mf_X5_after rfl sh_2 rfl (by decide) np_X5_after rfl (Nat.le_of_ble_eq_true rfl) (by decide) (Nat.zero_add _).symm (tq_M_mono (am_X5_after h) ?_)
      refine tq_wi_e (fun r102 z101 h => ?_)
      refine tq_s_istore (i := 7) (L9 := [.ref 2, .int a1, .int a2, .int a3, .int a4, .int a5, .int a6, .int r102, .null, .null]) (by decide +kernel) (by decide) rfl ?_
      refine tq_s_iload (i := 7) (by decide +kernel) rfl ?_
      refine tq_if_lt (off := 97) (tgt := 166) (by decide +kernel) (by decide +kernel) (fun hc => ?_) (fun hc => ?_)
      · replace h := h.1 hc
        exact tq_to (tq_lk1 (tq_lk1 (tq_lk1 (tq_lk1 (tq_lk1 (tq_lk1 (tq_lk1 (tq_ld1 (tq_lk1 (tq_lk1 tq_l0)))))))))) (ac_X5_goOn_166 hB26 hB37 h)
      · replace h := h.2 hc
        refine tq_s_aload_n (kk := 0) (by decide +kernel) rfl ?_
        refine fg_5_25_2 rfl (by decide +kernel) ?_
        refine tq_s_iload (i := 7) (by decide +kernel) rfl ?_
        refine tq_s_dup2_11 (by decide +kernel) rfl rfl ?_
        refine tq_s_lald (by decide +kernel) sh_6 h.1 ?_
        replace h := h.2
        refine tq_s_aload_n (kk := 0) (by decide +kernel) rfl ?_
        refine fg_5_22_2 rfl (by decide +kernel) ?_
        refine tq_s_iload (i := 5) (by decide +kernel) rfl ?_
        refine tq_s_lald (by decide +kernel) sh_5 h.1 ?_
        replace h := h.2
        refine tq_s_ladd (by decide +kernel) ?_
        refine tq_g_last (by decide +kernel) sh_6 h.1 (fun z103 ez103 => ?_)
        replace h := h.2 z103 ez103
        refine tq_s_aload_n (kk := 0) (by decide +kernel) rfl ?_
        refine fg_5_22_2 rfl (by decide +kernel) ?_
        refine tq_s_iload (i := 5) (by decide +kernel) rfl ?_
        refine tq_s_lald (by decide +kernel) sh_5 h.1 ?_
        replace h := h.2
        refine tq_s_aload_n (kk := 0) (by decide +kernel) rfl ?_
        refine tq_s_iload_n (kk := 1) (by decide +kernel) rfl ?_
        refine tq_s_iload (i := 7) (by decide +kernel) rfl ?_
        refine tq_callV (as := [.int a1, .int r102]) (st := [.long (tq_al z103 5 (Int32.toNatClampNeg a5))]) (d1 := 0) (x1 := 0) (x2 := x) (by decide +kernel) ln_5_85 mf_X5_onward rfl sh_2 rfl (by decide) np_X5_onward rfl (Nat.le_of_ble_eq_true rfl) (by decide) (Nat.zero_add _).symm (tq_M_mono (am_X5_onward h) ?_)
        refine tq_wl_e (fun r105 z104 h => ?_)
        refine tq_s_lmul (by decide +kernel) ?_
        refine tq_g_lstore (i := 8) (fun v106 => [.ref 2, .int a1, .int a2, .int a3, .int a4, .int a5, .int a6, .int r102, .long v106, .null]) (by decide +kernel) (by decide) (fun _ => rfl) (fun v106 ev106 => ?_)
        replace h := h v106 ev106
        refine tq_s_iload (i := 6) (by decide +kernel) rfl ?_
        refine tq_k_ic (n := 1) (v := (1 : Int32)) (by decide +kernel) kc_1 ?_
        refine tq_icmp_eq (off := 9) (tgt := 118) (by decide +kernel) (by decide +kernel) (fun hc => ?_) (fun hc => ?_)
        · replace h := h.1 hc
          exact tq_to (tq_lk1 (tq_lk1 (tq_lk1 (tq_lk1 (tq_lk1 (tq_lk1 (tq_lk1 (tq_ld1 (tq_lk1 (tq_lk1 tq_l0)))))))))) (ac_X5_goOn_118 hB26 hB37 h)
        · replace h := h.2 hc
          refine tq_s_iload (i := 6) (by decide +kernel) rfl ?_
          refine tq_k_ic (n := 3) (v := (3 : Int32)) (by decide +kernel) kc_3 ?_
          refine tq_icmp_ne (off := 30) (tgt := 145) (by decide +kernel) (by decide +kernel) (fun hc => ?_) (fun hc => ?_)
          · replace h := h.1 hc
            refine tq_s_iload (i := 6) (by decide +kernel) rfl ?_
            refine tq_k_ic (n := 2) (v := (2 : Int32)) (by decide +kernel) kc_2 ?_
            refine tq_icmp_ne (off := 18) (tgt := 166) (by decide +kernel) (by decide +kernel) (fun hc => ?_) (fun hc => ?_)
            · replace h := h.1 hc
              exact tq_to (tq_lk1 (tq_lk1 (tq_lk1 (tq_lk1 (tq_lk1 (tq_lk1 (tq_lk1 (tq_ld1 (tq_ld1 (tq_lk1 tq_l0)))))))))) (ac_X5_goOn_166 hB26 hB37 h)
            · replace h := h.2 hc
              refine tq_s_aload_n (kk := 0) (by decide +kernel) rfl ?_
              refine fg_5_28_2 rfl (by decide +kernel) ?_
              refine tq_k_ic (n := 2) (v := (2 : Int32)) (by decide +kernel) kc_2 ?_
              refine tq_s_iload_n (kk := 3) (by decide +kernel) rfl ?_
              refine tq_s_imul (by decide +kernel) ?_
              refine tq_k_ic (n := 1) (v := (1 : Int32)) (by decide +kernel) kc_1 ?_
              refine tq_s_iadd (by decide +kernel) ?_
              refine tq_s_dup2_11 (by decide +kernel) rfl rfl ?_
              refine tq_s_lald (by decide +kernel) sh_7 h.1 ?_
              replace h := h.2
              refine tq_s_lload (i := 8) (by decide +kernel) rfl ?_
              refine tq_s_ladd (by decide +kernel) ?_
              refine tq_g_last (by decide +kernel) sh_7 h.1 (fun z107 ez107 => ?_)
              replace h := h.2 z107 ez107
              exact tq_to (tq_lk1 (tq_lk1 (tq_lk1 (tq_lk1 (tq_lk1 (tq_lk1 (tq_lk1 (tq_ld1 (tq_ld1 (tq_lk1 tq_l0)))))))))) (ac_X5_goOn_166 hB26 hB37 h)
          · replace h := h.2 hc
            exact tq_to (tq_lk1 (tq_lk1 (tq_lk1 (tq_lk1 (tq_lk1 (tq_lk1 (tq_lk1 (tq_ld1 (tq_lk1 (tq_lk1 tq_l0)))))))))) (ac_X5_goOn_118 hB26 hB37 h)
theorem ac_X5_goOn_37 {K : Nat × (Nat → Int32)} {x : Nat} {Q : tq_O → tq_S → Prop} {B26 : Int32 → tq_S → Prop} {a1 : Int32} {a2 : Int32} {a3 : Int32} {a4 : Int32} {a5 : Int32} {a6 : Int32} {z : tq_S} (hB26 : ∀ (b5 : Int32) (z : tq_S), B26 b5 z → tq_T K 1 x mm_X5_goOn 26 [.ref 2, .int a1, .int a2, .int a3, .int a4, .int b5, .null, .null, .null, .null] [] z Q) (h : wc_X5_goOn_37 B26 Q a1 a2 a3 a4 a5 a6 z) : tq_T K 1 x mm_X5_goOn 37 [.ref 2, .int a1, .int a2, .int a3, .int a4, .int a5, .int a6, .null, .null, .null] [] z Q :=
  tq_lp_T (σ := Int32 × tq_S) (s := (a6, z)) (G := fun s => tq_T K 1 x mm_X5_goOn 37 [.ref 2, .int a1, .int a2, .int a3, .int a4, .int a5, .int s.1, .null, .null, .null] [] s.2 Q) (fun B hB s h => ab_X5_goOn_37 hB26 (fun b6 z h => hB (b6, z) h) h) h
def wb_X5_goOn_26 (B26 : Int32 → tq_S → Prop) (Q : tq_O → tq_S → Prop) (a1 : Int32) (a2 : Int32) (a3 : Int32) (a4 : Int32) (a5 : Int32) (z : tq_S) : Prop := (((512 : Int32) ≤ a5 → Q (.inl none) z) ∧ (¬ (512 : Int32) ≤ a5 → wc_X5_goOn_37 B26 Q a1 a2 a3 a4 a5 (0 : Int32) z))
def wc_X5_goOn_26 (Q : tq_O → tq_S → Prop) (a1 : Int32) (a2 : Int32) (a3 : Int32) (a4 : Int32) (a5 : Int32) (z : tq_S) : Prop := tq_lp (σ := Int32 × tq_S) (fun B s => wb_X5_goOn_26 (fun b5 z => B (b5, z)) Q a1 a2 a3 a4 s.1 s.2) (a5, z)
theorem ab_X5_goOn_26 {K : Nat × (Nat → Int32)} {x : Nat} {Q : tq_O → tq_S → Prop} {B26 : Int32 → tq_S → Prop} {a1 : Int32} {a2 : Int32} {a3 : Int32} {a4 : Int32} {a5 : Int32} {z : tq_S} (hB26 : ∀ (b5 : Int32) (z : tq_S), B26 b5 z → tq_T K 1 x mm_X5_goOn 26 [.ref 2, .int a1, .int a2, .int a3, .int a4, .int b5, .null, .null, .null, .null] [] z Q) (h : wb_X5_goOn_26 B26 Q a1 a2 a3 a4 a5 z) : tq_T K 1 x mm_X5_goOn 26 [.ref 2, .int a1, .int a2, .int a3, .int a4, .int a5, .null, .null, .null, .null] [] z Q := by
  unfold wb_X5_goOn_26 at h
  refine tq_s_iload (i := 5) (by decide +kernel) rfl ?_
  refine tq_k_si (n := 512) (v := (512 : Int32)) (by decide +kernel) ks_512 ?_
  refine tq_icmp_ge (off := 147) (tgt := 178) (by decide +kernel) (by decide +kernel) (fun hc => ?_) (fun hc => ?_)
  · replace h := h.1 hc
    exact tq_ret_v (st := []) (by decide +kernel) rfl h
  · replace h := h.2 hc
    refine tq_k_ic (n := 0) (v := (0 : Int32)) (by decide +kernel) kc_0 ?_
    refine tq_s_istore (i := 6) (L9 := [.ref 2, .int a1, .int a2, .int a3, .int a4, .int a5, .int (0 : Int32), .null, .null, .null]) (by decide +kernel) (by decide) rfl ?_
    exact ac_X5_goOn_37 hB26 h
theorem ac_X5_goOn_26 {K : Nat × (Nat → Int32)} {x : Nat} {Q : tq_O → tq_S → Prop} {a1 : Int32} {a2 : Int32} {a3 : Int32} {a4 : Int32} {a5 : Int32} {z : tq_S} (h : wc_X5_goOn_26 Q a1 a2 a3 a4 a5 z) : tq_T K 1 x mm_X5_goOn 26 [.ref 2, .int a1, .int a2, .int a3, .int a4, .int a5, .null, .null, .null, .null] [] z Q :=
  tq_lp_T (σ := Int32 × tq_S) (s := (a5, z)) (G := fun s => tq_T K 1 x mm_X5_goOn 26 [.ref 2, .int a1, .int a2, .int a3, .int a4, .int s.1, .null, .null, .null, .null] [] s.2 Q) (fun B hB s h => ab_X5_goOn_26 (fun b5 z h => hB (b5, z) h) h) h
def wm_X5_goOn (a1 : Int32) (a2 : Int32) (z : tq_S) (Q : tq_O → tq_S → Prop) : Prop := ∀ v1 : Int32, v1 = (((8 : Int32) * a2) + a1) → ∀ v2 : Int32, v2 = ((((8 : Int32) * a2) + (tq_fi z 64)) - (1 : Int32)) → wc_X5_goOn_26 Q a1 a2 v1 v2 (0 : Int32) z
theorem am_X5_goOn {K : Nat × (Nat → Int32)} {x : Nat} {z : tq_S} {Q : tq_O → tq_S → Prop} {a1 : Int32} {a2 : Int32} (h : wm_X5_goOn a1 a2 z Q) : tq_M K 1 x mm_X5_goOn [.ref 2, .int a1, .int a2] z Q := by
  unfold wm_X5_goOn at h
  refine tq_enter (L := [.ref 2, .int a1, .int a2, .null, .null, .null, .null, .null, .null, .null]) mf_X5_goOn.1 rfl rfl (Nat.le_of_ble_eq_true rfl) ?_
  refine tq_k_bi (n := 8) (v := (8 : Int32)) (by decide +kernel) kb_8 ?_
  refine tq_s_iload_n (kk := 2) (by decide +kernel) rfl ?_
  refine tq_s_imul (by decide +kernel) ?_
  refine tq_s_iload_n (kk := 1) (by decide +kernel) rfl ?_
  refine tq_s_iadd (by decide +kernel) ?_
  refine tq_g_istore_n (kk := 3) (fun v1 => [.ref 2, .int a1, .int a2, .int v1, .null, .null, .null, .null, .null, .null]) (by decide +kernel) (by decide) (fun _ => rfl) (fun v1 ev1 => ?_)
  replace h := h v1 ev1
  refine tq_k_bi (n := 8) (v := (8 : Int32)) (by decide +kernel) kb_8 ?_
  refine tq_s_iload_n (kk := 2) (by decide +kernel) rfl ?_
  refine tq_s_imul (by decide +kernel) ?_
  refine tq_s_aload_n (kk := 0) (by decide +kernel) rfl ?_
  refine fg_5_7_2 rfl (by decide +kernel) ?_
  refine fg_5_48_1 rfl (by decide +kernel) ?_
  refine tq_s_iadd (by decide +kernel) ?_
  refine tq_k_ic (n := 1) (v := (1 : Int32)) (by decide +kernel) kc_1 ?_
  refine tq_s_isub (by decide +kernel) ?_
  refine tq_g_istore (i := 4) (fun v2 => [.ref 2, .int a1, .int a2, .int v1, .int v2, .null, .null, .null, .null, .null]) (by decide +kernel) (by decide) (fun _ => rfl) (fun v2 ev2 => ?_)
  replace h := h v2 ev2
  refine tq_k_ic (n := 0) (v := (0 : Int32)) (by decide +kernel) kc_0 ?_
  refine tq_s_istore (i := 5) (L9 := [.ref 2, .int a1, .int a2, .int v1, .int v2, .int (0 : Int32), .null, .null, .null, .null]) (by decide +kernel) (by decide) rfl ?_
  exact ac_X5_goOn_26 h
def wc_X5_fillHaving_111 (B45 : Int32 → tq_S → Prop) (Q : tq_O → tq_S → Prop) (a1 : Int32) (z : tq_S) : Prop := ∀ v101 : Int32, v101 = a1 + (1 : Int32) → B45 v101 z
theorem ac_X5_fillHaving_111 {K : Nat × (Nat → Int32)} {x : Nat} {Q : tq_O → tq_S → Prop} {B45 : Int32 → tq_S → Prop} {a1 : Int32} {z : tq_S} (hB45 : ∀ (b1 : Int32) (z : tq_S), B45 b1 z → tq_T K 4 x mm_X5_fillHaving 45 [.ref 2, .int b1, .null] [] z Q) (h : wc_X5_fillHaving_111 B45 Q a1 z) : tq_T K 4 x mm_X5_fillHaving 111 [.ref 2, .int a1, .null] [] z Q := by
  unfold wc_X5_fillHaving_111 at h
  refine tq_g_iinc (i := 1) (fun v101 => [.ref 2, .int v101, .null]) (by decide +kernel) rfl (1 : Int32) kc_1 (fun _ => rfl) (fun v101 ev101 => ?_)
  replace h := h v101 ev101
  refine tq_s_goto (off := -69) (tgt := 45) (by decide +kernel) (by decide +kernel) ?_
  exact hB45 _ _ h
def wb_X5_fillHaving_64 (B45 : Int32 → tq_S → Prop) (B64 : Int32 → tq_S → Prop) (Q : tq_O → tq_S → Prop) (a1 : Int32) (a2 : Int32) (z : tq_S) : Prop := (((tq_fi z 64) ≤ a2 → wc_X5_fillHaving_111 B45 Q a1 z) ∧ (¬ (tq_fi z 64) ≤ a2 → wm_J7_fill_d0a16_r4 (0 : Int64) z (tq_wv fun z101 => wm_X5_goOn a2 a1 z101 (tq_wv fun z102 => (¬ (0 : Int32) < 0) ∧ (¬ (0 : Int32) < 0) ∧ (¬ (512 : Int32) < 0) ∧ (Int32.toNatClampNeg (0 : Int32) + Int32.toNatClampNeg (512 : Int32) ≤ 512) ∧ (Int32.toNatClampNeg (0 : Int32) + Int32.toNatClampNeg (512 : Int32) ≤ 512) ∧ ∀ z103 : tq_S, z103 = tq_sal z102 5 (va_cpy (tq_al z102 6) (tq_al z102 5) (Int32.toNatClampNeg (0 : Int32)) (Int32.toNatClampNeg (0 : Int32)) (Int32.toNatClampNeg (512 : Int32))) → ∀ v104 : Int32, v104 = a2 + (1 : Int32) → B64 v104 z103))))
def wc_X5_fillHaving_64 (B45 : Int32 → tq_S → Prop) (Q : tq_O → tq_S → Prop) (a1 : Int32) (a2 : Int32) (z : tq_S) : Prop := tq_lp (σ := Int32 × tq_S) (fun B s => wb_X5_fillHaving_64 B45 (fun b2 z => B (b2, z)) Q a1 s.1 s.2) (a2, z)
theorem ab_X5_fillHaving_64 {K : Nat × (Nat → Int32)} {x : Nat} {Q : tq_O → tq_S → Prop} {B45 : Int32 → tq_S → Prop} {B64 : Int32 → tq_S → Prop} {a1 : Int32} {a2 : Int32} {z : tq_S} (hB45 : ∀ (b1 : Int32) (z : tq_S), B45 b1 z → tq_T K 4 x mm_X5_fillHaving 45 [.ref 2, .int b1, .null] [] z Q) (hB64 : ∀ (b2 : Int32) (z : tq_S), B64 b2 z → tq_T K 4 x mm_X5_fillHaving 64 [.ref 2, .int a1, .int b2] [] z Q) (h : wb_X5_fillHaving_64 B45 B64 Q a1 a2 z) : tq_T K 4 x mm_X5_fillHaving 64 [.ref 2, .int a1, .int a2] [] z Q := by
  unfold wb_X5_fillHaving_64 at h
  refine tq_s_iload_n (kk := 2) (by decide +kernel) rfl ?_
  refine tq_s_aload_n (kk := 0) (by decide +kernel) rfl ?_
  refine fg_5_7_2 rfl (by decide +kernel) ?_
  refine fg_5_48_1 rfl (by decide +kernel) ?_
  refine tq_icmp_ge (off := 39) (tgt := 111) (by decide +kernel) (by decide +kernel) (fun hc => ?_) (fun hc => ?_)
  · replace h := h.1 hc
    exact tq_to (tq_lk1 (tq_lk1 (tq_ld1 tq_l0))) (ac_X5_fillHaving_111 hB45 h)
  · replace h := h.2 hc
    refine tq_s_aload_n (kk := 0) (by decide +kernel) rfl ?_
    refine fg_5_25_2 rfl (by decide +kernel) ?_
    refine tq_k_lc (n := 0) (v := (0 : Int64)) (by decide +kernel) (by decide +kernel) ?_
    refine tq_callS (as := [.ref 6, .long (0 : Int64)]) (st := []) (d1 := 0) (x1 := 0) (x2 := x) (by decide +kernel) ln_5_61 mf_J7_fill_d0a16 rfl (by decide) np_J7_fill_d0a16 rfl (Nat.le_of_ble_eq_true rfl) (by decide) (Nat.zero_add _).symm (tq_M_mono (am_J7_fill_d0a16_r4 h) ?_)
    refine tq_wv_e (fun z101 h => ?_)
    refine tq_s_aload_n (kk := 0) (by decide +kernel) rfl ?_
    refine tq_s_iload_n (kk := 2) (by decide +kernel) rfl ?_
    refine tq_s_iload_n (kk := 1) (by decide +kernel) rfl ?_
    refine tq_callV (as := [.int a2, .int a1]) (st := []) (d1 := 1) (x1 := 0) (x2 := x) (by decide +kernel) ln_5_106 mf_X5_goOn rfl sh_2 rfl (by decide) np_X5_goOn rfl (Nat.le_of_ble_eq_true rfl) (by decide) (Nat.zero_add _).symm (tq_M_mono (am_X5_goOn h) ?_)
    refine tq_wv_e (fun z102 h => ?_)
    refine tq_s_aload_n (kk := 0) (by decide +kernel) rfl ?_
    refine fg_5_25_2 rfl (by decide +kernel) ?_
    refine tq_k_ic (n := 0) (v := (0 : Int32)) (by decide +kernel) kc_0 ?_
    refine tq_s_aload_n (kk := 0) (by decide +kernel) rfl ?_
    refine fg_5_22_2 rfl (by decide +kernel) ?_
    refine tq_k_ic (n := 0) (v := (0 : Int32)) (by decide +kernel) kc_0 ?_
    refine tq_k_si (n := 512) (v := (512 : Int32)) (by decide +kernel) ks_512 ?_
    refine tq_g_acopyl (by decide +kernel) la_5_71 sh_6 sh_5 h.1 h.2.1 h.2.2.1 h.2.2.2.1 h.2.2.2.2.1 (Nat.le_of_ble_eq_true rfl) (fun z103 ez103 => ?_)
    replace h := h.2.2.2.2.2 z103 ez103
    refine tq_g_iinc (i := 2) (fun v104 => [.ref 2, .int a1, .int v104]) (by decide +kernel) rfl (1 : Int32) kc_1 (fun _ => rfl) (fun v104 ev104 => ?_)
    replace h := h v104 ev104
    refine tq_s_goto (off := -44) (tgt := 64) (by decide +kernel) (by decide +kernel) ?_
    exact hB64 _ _ h
theorem ac_X5_fillHaving_64 {K : Nat × (Nat → Int32)} {x : Nat} {Q : tq_O → tq_S → Prop} {B45 : Int32 → tq_S → Prop} {a1 : Int32} {a2 : Int32} {z : tq_S} (hB45 : ∀ (b1 : Int32) (z : tq_S), B45 b1 z → tq_T K 4 x mm_X5_fillHaving 45 [.ref 2, .int b1, .null] [] z Q) (h : wc_X5_fillHaving_64 B45 Q a1 a2 z) : tq_T K 4 x mm_X5_fillHaving 64 [.ref 2, .int a1, .int a2] [] z Q :=
  tq_lp_T (σ := Int32 × tq_S) (s := (a2, z)) (G := fun s => tq_T K 4 x mm_X5_fillHaving 64 [.ref 2, .int a1, .int s.1] [] s.2 Q) (fun B hB s h => ab_X5_fillHaving_64 hB45 (fun b2 z h => hB (b2, z) h) h) h
def wc_X5_fillHaving_117 (Q : tq_O → tq_S → Prop)  (z : tq_S) : Prop := ∀ z101 : tq_S, z101 = tq_sfi z 135 (tq_fi z 68) → Q (.inl none) z101
theorem ac_X5_fillHaving_117 {K : Nat × (Nat → Int32)} {x : Nat} {Q : tq_O → tq_S → Prop}  {z : tq_S} (h : wc_X5_fillHaving_117 Q z) : tq_T K 4 x mm_X5_fillHaving 117 [.ref 2, .null, .null] [] z Q := by
  unfold wc_X5_fillHaving_117 at h
  refine tq_s_aload_n (kk := 0) (by decide +kernel) rfl ?_
  refine tq_s_aload_n (kk := 0) (by decide +kernel) rfl ?_
  refine fg_5_7_2 rfl (by decide +kernel) ?_
  refine fg_5_58_1 rfl (by decide +kernel) ?_
  refine fp_5_35_2 rfl (by decide +kernel) (fun z101 ez101 => ?_)
  replace h := h z101 ez101
  exact tq_ret_v (st := []) (by decide +kernel) rfl h
def wb_X5_fillHaving_45 (B45 : Int32 → tq_S → Prop) (Q : tq_O → tq_S → Prop) (a1 : Int32) (z : tq_S) : Prop := (((tq_fi z 65) ≤ a1 → wc_X5_fillHaving_117 Q z) ∧ (¬ (tq_fi z 65) ≤ a1 → wm_X5_prepareRow a1 (-1 : Int32) z (tq_wv fun z101 => wc_X5_fillHaving_64 B45 Q a1 (0 : Int32) z101)))
def wc_X5_fillHaving_45 (Q : tq_O → tq_S → Prop) (a1 : Int32) (z : tq_S) : Prop := tq_lp (σ := Int32 × tq_S) (fun B s => wb_X5_fillHaving_45 (fun b1 z => B (b1, z)) Q s.1 s.2) (a1, z)
theorem ab_X5_fillHaving_45 {K : Nat × (Nat → Int32)} {x : Nat} {Q : tq_O → tq_S → Prop} {B45 : Int32 → tq_S → Prop} {a1 : Int32} {z : tq_S} (hB45 : ∀ (b1 : Int32) (z : tq_S), B45 b1 z → tq_T K 4 x mm_X5_fillHaving 45 [.ref 2, .int b1, .null] [] z Q) (h : wb_X5_fillHaving_45 B45 Q a1 z) : tq_T K 4 x mm_X5_fillHaving 45 [.ref 2, .int a1, .null] [] z Q := by
  unfold wb_X5_fillHaving_45 at h
  refine tq_s_iload_n (kk := 1) (by decide +kernel) rfl ?_
  refine tq_s_aload_n (kk := 0) (by decide +kernel) rfl ?_
  refine fg_5_7_2 rfl (by decide +kernel) ?_
  refine fg_5_51_1 rfl (by decide +kernel) ?_
  refine tq_icmp_ge (off := 64) (tgt := 117) (by decide +kernel) (by decide +kernel) (fun hc => ?_) (fun hc => ?_)
  · replace h := h.1 hc
    exact tq_to (tq_lk1 (tq_ld1 (tq_lk1 tq_l0))) (ac_X5_fillHaving_117 h)
  · replace h := h.2 hc
    refine tq_s_aload_n (kk := 0) (by decide +kernel) rfl ?_
    refine tq_s_iload_n (kk := 1) (by decide +kernel) rfl ?_
    refine tq_k_ic (n := -1) (v := (-1 : Int32)) (by decide +kernel) kc_m1 ?_
    refine tq_callV (as := [.int a1, .int (-1 : Int32)]) (st := []) (d1 := 2) (x1 := 0) (x2 := x) (by decide +kernel) ln_5_67 mf_X5_prepareRow rfl sh_2 rfl (by decide) np_X5_prepareRow rfl (Nat.le_of_ble_eq_true rfl) (by decide) (Nat.zero_add _).symm (tq_M_mono (am_X5_prepareRow h) ?_)
    refine tq_wv_e (fun z101 h => ?_)
    refine tq_k_ic (n := 0) (v := (0 : Int32)) (by decide +kernel) kc_0 ?_
    refine tq_s_istore_n (kk := 2) (L9 := [.ref 2, .int a1, .int (0 : Int32)]) (by decide +kernel) (by decide) rfl ?_
    exact ac_X5_fillHaving_64 hB45 h
theorem ac_X5_fillHaving_45 {K : Nat × (Nat → Int32)} {x : Nat} {Q : tq_O → tq_S → Prop} {a1 : Int32} {z : tq_S} (h : wc_X5_fillHaving_45 Q a1 z) : tq_T K 4 x mm_X5_fillHaving 45 [.ref 2, .int a1, .null] [] z Q :=
  tq_lp_T (σ := Int32 × tq_S) (s := (a1, z)) (G := fun s => tq_T K 4 x mm_X5_fillHaving 45 [.ref 2, .int s.1, .null] [] s.2 Q) (fun B hB s h => ab_X5_fillHaving_45 (fun b1 z h => hB (b1, z) h) h) h
def wm_X5_fillHaving  (z : tq_S) (Q : tq_O → tq_S → Prop) : Prop := ((¬ (tq_fi z 135) = (tq_fi z 68) → wm_X5_total z (tq_wl fun r2 z1 => wm_J7_fill_d0a16_r2 (0 : Int64) z1 (tq_wv fun z3 => wm_J7_fill_d0a16_r3 (0 : Int64) z3 (tq_wv fun z4 => ∀ z5 : tq_S, z5 = tq_sal z4 5 (vp_updL (tq_al z4 5) (Int32.toNatClampNeg (0 : Int32)) (1 : Int64)) → wc_X5_fillHaving_45 Q (0 : Int32) z5)))) ∧ ((tq_fi z 135) = (tq_fi z 68) → Q (.inl none) z))
theorem am_X5_fillHaving {K : Nat × (Nat → Int32)} {x : Nat} {z : tq_S} {Q : tq_O → tq_S → Prop}  (h : wm_X5_fillHaving z Q) : tq_M K 4 x mm_X5_fillHaving [.ref 2] z Q := by
  unfold wm_X5_fillHaving at h
  refine tq_enter (L := [.ref 2, .null, .null]) mf_X5_fillHaving.1 rfl rfl (Nat.le_of_ble_eq_true rfl) ?_
  refine tq_s_aload_n (kk := 0) (by decide +kernel) rfl ?_
  refine fg_5_35_2 rfl (by decide +kernel) ?_
  refine tq_s_aload_n (kk := 0) (by decide +kernel) rfl ?_
  refine fg_5_7_2 rfl (by decide +kernel) ?_
  refine fg_5_58_1 rfl (by decide +kernel) ?_
  refine tq_icmp_ne (off := 4) (tgt := 15) (by decide +kernel) (by decide +kernel) (fun hc => ?_) (fun hc => ?_)
  · replace h := h.1 hc
    refine tq_s_aload_n (kk := 0) (by decide +kernel) rfl ?_
    refine tq_callV (as := []) (st := []) (d1 := 3) (x1 := 0) (x2 := x) (by decide +kernel) ln_5_102 mf_X5_total rfl sh_2 rfl (by decide) np_X5_total rfl (Nat.le_of_ble_eq_true rfl) (by decide) (Nat.zero_add _).symm (tq_M_mono (am_X5_total h) ?_)
    refine tq_wl_e (fun r2 z1 h => ?_)
    refine tq_s_pop2_2 (by decide +kernel) rfl ?_
    refine tq_s_aload_n (kk := 0) (by decide +kernel) rfl ?_
    refine fg_5_28_2 rfl (by decide +kernel) ?_
    refine tq_k_lc (n := 0) (v := (0 : Int64)) (by decide +kernel) (by decide +kernel) ?_
    refine tq_callS (as := [.ref 7, .long (0 : Int64)]) (st := []) (d1 := 0) (x1 := 0) (x2 := x) (by decide +kernel) ln_5_61 mf_J7_fill_d0a16 rfl (by decide) np_J7_fill_d0a16 rfl (Nat.le_of_ble_eq_true rfl) (by decide) (Nat.zero_add _).symm (tq_M_mono (am_J7_fill_d0a16_r2 h) ?_)
    refine tq_wv_e (fun z3 h => ?_)
    refine tq_s_aload_n (kk := 0) (by decide +kernel) rfl ?_
    refine fg_5_22_2 rfl (by decide +kernel) ?_
    refine tq_k_lc (n := 0) (v := (0 : Int64)) (by decide +kernel) (by decide +kernel) ?_
    refine tq_callS (as := [.ref 5, .long (0 : Int64)]) (st := []) (d1 := 0) (x1 := 0) (x2 := x) (by decide +kernel) ln_5_61 mf_J7_fill_d0a16 rfl (by decide) np_J7_fill_d0a16 rfl (Nat.le_of_ble_eq_true rfl) (by decide) (Nat.zero_add _).symm (tq_M_mono (am_J7_fill_d0a16_r3 h) ?_)
    refine tq_wv_e (fun z4 h => ?_)
    refine tq_s_aload_n (kk := 0) (by decide +kernel) rfl ?_
    refine fg_5_22_2 rfl (by decide +kernel) ?_
    refine tq_k_ic (n := 0) (v := (0 : Int32)) (by decide +kernel) kc_0 ?_
    refine tq_k_lc (n := 1) (v := (1 : Int64)) (by decide +kernel) (by decide +kernel) ?_
    refine tq_g_last (by decide +kernel) sh_5 vi_0_512 (fun z5 ez5 => ?_)
    replace h := h z5 ez5
    refine tq_k_ic (n := 0) (v := (0 : Int32)) (by decide +kernel) kc_0 ?_
    refine tq_s_istore_n (kk := 1) (L9 := [.ref 2, .int (0 : Int32), .null]) (by decide +kernel) (by decide) rfl ?_
    exact ac_X5_fillHaving_45 h
  · replace h := h.2 hc
    exact tq_ret_v (st := []) (by decide +kernel) rfl h
def wm_X5_withPiece (a1 : Int32) (a2 : Int32) (a3 : Int32) (z : tq_S) (Q : tq_O → tq_S → Prop) : Prop := ((a3 = 0 → vp_in (((2 : Int32) * (((8 : Int32) * a2) + a1)) + (1 : Int32)) 128 ∧ Q (.inl (some (.long (tq_al z 7 (Int32.toNatClampNeg (((2 : Int32) * (((8 : Int32) * a2) + a1)) + (1 : Int32))))))) z) ∧ (¬ a3 = 0 → vp_in (((2 : Int32) * (((8 : Int32) * a2) + a1)) + (0 : Int32)) 128 ∧ Q (.inl (some (.long (tq_al z 7 (Int32.toNatClampNeg (((2 : Int32) * (((8 : Int32) * a2) + a1)) + (0 : Int32))))))) z))
theorem am_X5_withPiece {K : Nat × (Nat → Int32)} {x : Nat} {z : tq_S} {Q : tq_O → tq_S → Prop} {a1 : Int32} {a2 : Int32} {a3 : Int32} (h : wm_X5_withPiece a1 a2 a3 z Q) : tq_M K 0 x mm_X5_withPiece [.ref 2, .int a1, .int a2, .int a3] z Q := by
  unfold wm_X5_withPiece at h
  refine tq_enter (L := [.ref 2, .int a1, .int a2, .int a3]) mf_X5_withPiece.1 rfl rfl (Nat.le_of_ble_eq_true rfl) ?_
  refine tq_s_aload_n (kk := 0) (by decide +kernel) rfl ?_
  refine fg_5_28_2 rfl (by decide +kernel) ?_
  refine tq_k_ic (n := 2) (v := (2 : Int32)) (by decide +kernel) kc_2 ?_
  refine tq_k_bi (n := 8) (v := (8 : Int32)) (by decide +kernel) kb_8 ?_
  refine tq_s_iload_n (kk := 2) (by decide +kernel) rfl ?_
  refine tq_s_imul (by decide +kernel) ?_
  refine tq_s_iload_n (kk := 1) (by decide +kernel) rfl ?_
  refine tq_s_iadd (by decide +kernel) ?_
  refine tq_s_imul (by decide +kernel) ?_
  refine tq_s_iload_n (kk := 3) (by decide +kernel) rfl ?_
  refine tq_if_eq (off := 7) (tgt := 20) (by decide +kernel) (by decide +kernel) (fun hc => ?_) (fun hc => ?_)
  · replace h := h.1 hc
    refine tq_k_ic (n := 1) (v := (1 : Int32)) (by decide +kernel) kc_1 ?_
    refine tq_s_iadd (by decide +kernel) ?_
    refine tq_s_lald (by decide +kernel) sh_7 h.1 ?_
    replace h := h.2
    exact tq_ret_l (st := []) (by decide +kernel) rfl h
  · replace h := h.2 hc
    refine tq_k_ic (n := 0) (v := (0 : Int32)) (by decide +kernel) kc_0 ?_
    refine tq_s_goto (off := 4) (tgt := 21) (by decide +kernel) (by decide +kernel) ?_
    refine tq_s_iadd (by decide +kernel) ?_
    refine tq_s_lald (by decide +kernel) sh_7 h.1 ?_
    replace h := h.2
    exact tq_ret_l (st := []) (by decide +kernel) rfl h
def wm_X11_having (a1 : Int32) (a2 : Int32) (a3 : Int32) (z : tq_S) (Q : tq_O → tq_S → Prop) : Prop := wm_X1_isPiece a1 a2 a3 z (tq_wi fun r2 z1 => ((¬ r2 = 0 → wm_X5_fillHaving z1 (tq_wv fun z3 => wm_X5_withPiece a1 a2 a3 z3 (tq_wl fun r5 z4 => wm_X11_say r5 z4 (tq_wi fun r7 z6 => Q (.inl (some (.int r7))) z6)))) ∧ (r2 = 0 → Q (.inr 3) z1)))
theorem am_X11_having {K : Nat × (Nat → Int32)} {z : tq_S} {Q : tq_O → tq_S → Prop} {a1 : Int32} {a2 : Int32} {a3 : Int32} (h : wm_X11_having a1 a2 a3 z Q) : tq_M K 5 1 mm_X11_having [.ref 0, .int a1, .int a2, .int a3] z Q := by
  unfold wm_X11_having at h
  refine tq_enter (L := [.ref 0, .int a1, .int a2, .int a3]) mf_X11_having.1 rfl rfl (Nat.le_of_ble_eq_true rfl) ?_
  refine tq_s_aload_n (kk := 0) (by decide +kernel) rfl ?_
  refine fg_11_10_0 rfl (by decide +kernel) ?_
  refine tq_s_iload_n (kk := 1) (by decide +kernel) rfl ?_
  refine tq_s_iload_n (kk := 2) (by decide +kernel) rfl ?_
  refine tq_s_iload_n (kk := 3) (by decide +kernel) rfl ?_
  refine tq_callVN (as := [.int a1, .int a2, .int a3]) (st := []) (d1 := 1) (x1 := 0) (x2 := 1) (by decide +kernel) ln_11_208 mf_X1_isPiece rfl sh_1 rfl (by decide) np_X1_isPiece rfl (Nat.le_of_ble_eq_true rfl) (by decide) (Nat.zero_add _).symm (tq_M_mono (am_X1_isPiece h) ?_)
  refine tq_wi_e (fun r2 z1 h => ?_)
  refine tq_if_ne (off := 13) (tgt := 23) (by decide +kernel) (by decide +kernel) (fun hc => ?_) (fun hc => ?_)
  · replace h := h.1 hc
    refine tq_s_aload_n (kk := 0) (by decide +kernel) rfl ?_
    refine fg_11_21_0 rfl (by decide +kernel) ?_
    refine tq_callVN (as := []) (st := []) (d1 := 4) (x1 := 0) (x2 := 1) (by decide +kernel) ln_11_214 mf_X5_fillHaving rfl sh_2 rfl (by decide) np_X5_fillHaving rfl (Nat.le_of_ble_eq_true rfl) (by decide) (Nat.zero_add _).symm (tq_M_mono (am_X5_fillHaving h) ?_)
    refine tq_wv_e (fun z3 h => ?_)
    refine tq_s_aload_n (kk := 0) (by decide +kernel) rfl ?_
    refine tq_s_aload_n (kk := 0) (by decide +kernel) rfl ?_
    refine fg_11_21_0 rfl (by decide +kernel) ?_
    refine tq_s_iload_n (kk := 1) (by decide +kernel) rfl ?_
    refine tq_s_iload_n (kk := 2) (by decide +kernel) rfl ?_
    refine tq_s_iload_n (kk := 3) (by decide +kernel) rfl ?_
    refine tq_callVN (as := [.int a1, .int a2, .int a3]) (st := [.ref 0]) (d1 := 0) (x1 := 0) (x2 := 1) (by decide +kernel) ln_11_217 mf_X5_withPiece rfl sh_2 rfl (by decide) np_X5_withPiece rfl (Nat.le_of_ble_eq_true rfl) (by decide) (Nat.zero_add _).symm (tq_M_mono (am_X5_withPiece h) ?_)
    refine tq_wl_e (fun r5 z4 h => ?_)
    refine tq_callV (as := [.long r5]) (st := []) (d1 := 3) (x1 := 0) (x2 := 1) (by decide +kernel) ln_11_196 mf_X11_say rfl sh_0 rfl (by decide) np_X11_say rfl (Nat.le_of_ble_eq_true rfl) (by decide) (Nat.zero_add _).symm (tq_M_mono (am_X11_say h) ?_)
    refine tq_wi_e (fun r7 z6 h => ?_)
    exact tq_ret_i (st := []) (by decide +kernel) rfl h
  · replace h := h.2 hc
    exact tq_throwS th_11_141_212 rfl (by decide +kernel) (by decide +kernel) (by decide +kernel) (by decide +kernel) (by decide +kernel) (Nat.le_of_ble_eq_true rfl) rfl (Nat.le_refl 1) h
def wc_X11_signAt_12 (Q : tq_O → tq_S → Prop)  (z : tq_S) : Prop := Q (.inr 3) z
theorem ac_X11_signAt_12 {K : Nat × (Nat → Int32)} {Q : tq_O → tq_S → Prop}  {z : tq_S} (h : wc_X11_signAt_12 Q z) : tq_T K 0 1 mm_X11_signAt 12 [.null, .null] [] z Q := by
  unfold wc_X11_signAt_12 at h
  exact tq_throwS th_11_141_221 rfl (by decide +kernel) (by decide +kernel) (by decide +kernel) (by decide +kernel) (by decide +kernel) (Nat.le_of_ble_eq_true rfl) rfl (Nat.le_refl 1) h
def wm_X11_signAt (a1 : Int32) (z : tq_S) (Q : tq_O → tq_S → Prop) : Prop := ((a1 < 0 → wc_X11_signAt_12 Q z) ∧ (¬ a1 < 0 → ((a1 < (tq_fi z 13) → vp_in a1 320 ∧ tq_nf 2 (tq_ai z 50 (Int32.toNatClampNeg a1)) ∧ Q (.inl (some (.int (tq_ai z 50 (Int32.toNatClampNeg a1))))) z) ∧ (¬ a1 < (tq_fi z 13) → wc_X11_signAt_12 Q z))))
theorem am_X11_signAt {K : Nat × (Nat → Int32)} {z : tq_S} {Q : tq_O → tq_S → Prop} {a1 : Int32} (h : wm_X11_signAt a1 z Q) : tq_M K 0 1 mm_X11_signAt [.ref 0, .int a1] z Q := by
  unfold wm_X11_signAt at h
  refine tq_enter (L := [.ref 0, .int a1]) mf_X11_signAt.1 rfl rfl (Nat.le_of_ble_eq_true rfl) ?_
  refine tq_s_iload_n (kk := 1) (by decide +kernel) rfl ?_
  refine tq_if_lt (off := 11) (tgt := 12) (by decide +kernel) (by decide +kernel) (fun hc => ?_) (fun hc => ?_)
  · replace h := h.1 hc
    exact tq_to (tq_ld1 (tq_ld1 tq_l0)) (ac_X11_signAt_12 h)
  · replace h := h.2 hc
    refine tq_s_iload_n (kk := 1) (by decide +kernel) rfl ?_
    refine tq_s_aload_n (kk := 0) (by decide +kernel) rfl ?_
    refine fg_11_97_0 rfl (by decide +kernel) ?_
    refine tq_icmp_lt (off := 13) (tgt := 22) (by decide +kernel) (by decide +kernel) (fun hc => ?_) (fun hc => ?_)
    · replace h := h.1 hc
      refine tq_s_aload_n (kk := 0) (by decide +kernel) rfl ?_
      refine fg_11_93_0 rfl (by decide +kernel) ?_
      refine tq_s_iload_n (kk := 1) (by decide +kernel) rfl ?_
      refine tq_s_cald (by decide +kernel) sh_50 h.1 ?_
      replace h := h.2
      exact tq_ret_z (st := []) (ty := .char) (by decide +kernel) h.1.1 rfl h.2
    · replace h := h.2 hc
      exact tq_to (tq_ld1 (tq_ld1 tq_l0)) (ac_X11_signAt_12 h)
def wc_X5_put_38 (Q : tq_O → tq_S → Prop) (a2 : Int32) (a3 : Int32) (z : tq_S) : Prop := ((¬ a3 = (3 : Int32) → Q (.inl none) z) ∧ (a3 = (3 : Int32) → wm_X1_bit ((tq_fi z 64) - (1 : Int32)) a2 z (tq_wl fun r102 z101 => ∀ z103 : tq_S, z103 = tq_sfl z101 136 ((tq_fl z 136) ||| r102) → Q (.inl none) z103)))
theorem ac_X5_put_38 {K : Nat × (Nat → Int32)} {x : Nat} {Q : tq_O → tq_S → Prop} {a2 : Int32} {a3 : Int32} {z : tq_S} (h : wc_X5_put_38 Q a2 a3 z) : tq_T K 1 x mm_X5_put 38 [.ref 2, .null, .int a2, .int a3] [] z Q := by
  unfold wc_X5_put_38 at h
  refine tq_s_iload_n (kk := 3) (by decide +kernel) rfl ?_
  refine tq_k_ic (n := 3) (v := (3 : Int32)) (by decide +kernel) kc_3 ?_
  refine tq_icmp_ne (off := 25) (tgt := 65) (by decide +kernel) (by decide +kernel) (fun hc => ?_) (fun hc => ?_)
  · replace h := h.1 hc
    exact tq_ret_v (st := []) (by decide +kernel) rfl h
  · replace h := h.2 hc
    refine tq_s_aload_n (kk := 0) (by decide +kernel) rfl ?_
    refine tq_s_dup (by decide +kernel) rfl ?_
    refine fg_5_38_2 rfl (by decide +kernel) ?_
    refine tq_s_aload_n (kk := 0) (by decide +kernel) rfl ?_
    refine fg_5_7_2 rfl (by decide +kernel) ?_
    refine fg_5_48_1 rfl (by decide +kernel) ?_
    refine tq_k_ic (n := 1) (v := (1 : Int32)) (by decide +kernel) kc_1 ?_
    refine tq_s_isub (by decide +kernel) ?_
    refine tq_s_iload_n (kk := 2) (by decide +kernel) rfl ?_
    refine tq_callSN (as := [.int ((tq_fi z 64) - (1 : Int32)), .int a2]) (st := [.long (tq_fl z 136), .ref 2]) (d1 := 0) (x1 := 0) (x2 := x) (by decide +kernel) ln_5_93 mf_X1_bit rfl (by decide) np_X1_bit rfl (Nat.le_of_ble_eq_true rfl) (by decide) (Nat.zero_add _).symm (tq_M_mono (am_X1_bit h) ?_)
    refine tq_wl_e (fun r102 z101 h => ?_)
    refine tq_s_lor (by decide +kernel) ?_
    refine fp_5_38_2 rfl (by decide +kernel) (fun z103 ez103 => ?_)
    replace h := h z103 ez103
    exact tq_ret_v (st := []) (by decide +kernel) rfl h
def wc_X5_put_19 (Q : tq_O → tq_S → Prop) (a1 : Int32) (a2 : Int32) (a3 : Int32) (z : tq_S) : Prop := ((¬ a3 = (2 : Int32) → wc_X5_put_38 Q a2 a3 z) ∧ (a3 = (2 : Int32) → wm_X1_bit a1 a2 z (tq_wl fun r102 z101 => ∀ z103 : tq_S, z103 = tq_sfl z101 137 ((tq_fl z 137) ||| r102) → wc_X5_put_38 Q a2 a3 z103)))
theorem ac_X5_put_19 {K : Nat × (Nat → Int32)} {x : Nat} {Q : tq_O → tq_S → Prop} {a1 : Int32} {a2 : Int32} {a3 : Int32} {z : tq_S} (h : wc_X5_put_19 Q a1 a2 a3 z) : tq_T K 1 x mm_X5_put 19 [.ref 2, .int a1, .int a2, .int a3] [] z Q := by
  unfold wc_X5_put_19 at h
  refine tq_s_iload_n (kk := 3) (by decide +kernel) rfl ?_
  refine tq_k_ic (n := 2) (v := (2 : Int32)) (by decide +kernel) kc_2 ?_
  refine tq_icmp_ne (off := 17) (tgt := 38) (by decide +kernel) (by decide +kernel) (fun hc => ?_) (fun hc => ?_)
  · replace h := h.1 hc
    exact tq_to (tq_lk1 (tq_ld1 (tq_lk1 (tq_lk1 tq_l0)))) (ac_X5_put_38 h)
  · replace h := h.2 hc
    refine tq_s_aload_n (kk := 0) (by decide +kernel) rfl ?_
    refine tq_s_dup (by decide +kernel) rfl ?_
    refine fg_5_42_2 rfl (by decide +kernel) ?_
    refine tq_s_iload_n (kk := 1) (by decide +kernel) rfl ?_
    refine tq_s_iload_n (kk := 2) (by decide +kernel) rfl ?_
    refine tq_callSN (as := [.int a1, .int a2]) (st := [.long (tq_fl z 137), .ref 2]) (d1 := 0) (x1 := 0) (x2 := x) (by decide +kernel) ln_5_93 mf_X1_bit rfl (by decide) np_X1_bit rfl (Nat.le_of_ble_eq_true rfl) (by decide) (Nat.zero_add _).symm (tq_M_mono (am_X1_bit h) ?_)
    refine tq_wl_e (fun r102 z101 h => ?_)
    refine tq_s_lor (by decide +kernel) ?_
    refine fp_5_42_2 rfl (by decide +kernel) (fun z103 ez103 => ?_)
    replace h := h z103 ez103
    exact tq_to (tq_lk1 (tq_ld1 (tq_lk1 (tq_lk1 tq_l0)))) (ac_X5_put_38 h)
def wm_X5_put (a1 : Int32) (a2 : Int32) (a3 : Int32) (z : tq_S) (Q : tq_O → tq_S → Prop) : Prop := ((¬ a3 = (1 : Int32) → wc_X5_put_19 Q a1 a2 a3 z) ∧ (a3 = (1 : Int32) → wm_X1_bit a1 a2 z (tq_wl fun r2 z1 => ∀ z3 : tq_S, z3 = tq_sfl z1 136 ((tq_fl z 136) ||| r2) → wc_X5_put_19 Q a1 a2 a3 z3)))
theorem am_X5_put {K : Nat × (Nat → Int32)} {x : Nat} {z : tq_S} {Q : tq_O → tq_S → Prop} {a1 : Int32} {a2 : Int32} {a3 : Int32} (h : wm_X5_put a1 a2 a3 z Q) : tq_M K 1 x mm_X5_put [.ref 2, .int a1, .int a2, .int a3] z Q := by
  unfold wm_X5_put at h
  refine tq_enter (L := [.ref 2, .int a1, .int a2, .int a3]) mf_X5_put.1 rfl rfl (Nat.le_of_ble_eq_true rfl) ?_
  refine tq_s_iload_n (kk := 3) (by decide +kernel) rfl ?_
  refine tq_k_ic (n := 1) (v := (1 : Int32)) (by decide +kernel) kc_1 ?_
  refine tq_icmp_ne (off := 17) (tgt := 19) (by decide +kernel) (by decide +kernel) (fun hc => ?_) (fun hc => ?_)
  · replace h := h.1 hc
    exact ac_X5_put_19 h
  · replace h := h.2 hc
    refine tq_s_aload_n (kk := 0) (by decide +kernel) rfl ?_
    refine tq_s_dup (by decide +kernel) rfl ?_
    refine fg_5_38_2 rfl (by decide +kernel) ?_
    refine tq_s_iload_n (kk := 1) (by decide +kernel) rfl ?_
    refine tq_s_iload_n (kk := 2) (by decide +kernel) rfl ?_
    refine tq_callSN (as := [.int a1, .int a2]) (st := [.long (tq_fl z 136), .ref 2]) (d1 := 0) (x1 := 0) (x2 := x) (by decide +kernel) ln_5_93 mf_X1_bit rfl (by decide) np_X1_bit rfl (Nat.le_of_ble_eq_true rfl) (by decide) (Nat.zero_add _).symm (tq_M_mono (am_X1_bit h) ?_)
    refine tq_wl_e (fun r2 z1 h => ?_)
    refine tq_s_lor (by decide +kernel) ?_
    refine fp_5_38_2 rfl (by decide +kernel) (fun z3 ez3 => ?_)
    replace h := h z3 ez3
    exact ac_X5_put_19 h
def wc_X5_make_121 (B18 : Int64 → Int32 → Int32 → tq_S → Prop) (B41 : Int64 → Int32 → Int32 → tq_S → Prop) (Q : tq_O → tq_S → Prop) (a3 : Int64) (a5 : Int32) (a6 : Int32) (a7 : Int32) (z : tq_S) : Prop := ∀ v101 : Int32, v101 = a7 + (1 : Int32) → B41 a3 a5 v101 z
theorem ac_X5_make_121 {K : Nat × (Nat → Int32)} {x : Nat} {Q : tq_O → tq_S → Prop} {B18 : Int64 → Int32 → Int32 → tq_S → Prop} {B41 : Int64 → Int32 → Int32 → tq_S → Prop} {a3 : Int64} {a5 : Int32} {a6 : Int32} {a7 : Int32} {z : tq_S} (hB18 : ∀ (b3 : Int64) (b5 : Int32) (b6 : Int32) (z : tq_S), B18 b3 b5 b6 z → tq_T K 3 x mm_X5_make 18 [.ref 2, .null, .null, .long b3, .null, .int b5, .int b6, .null, .null, .null, .null, .null] [] z Q) (hB41 : ∀ (b3 : Int64) (b5 : Int32) (b7 : Int32) (z : tq_S), B41 b3 b5 b7 z → tq_T K 3 x mm_X5_make 41 [.ref 2, .null, .null, .long b3, .null, .int b5, .int a6, .int b7, .null, .null, .null, .null] [] z Q) (h : wc_X5_make_121 B18 B41 Q a3 a5 a6 a7 z) : tq_T K 3 x mm_X5_make 121 [.ref 2, .null, .null, .long a3, .null, .int a5, .int a6, .int a7, .null, .null, .null, .null] [] z Q := by
  unfold wc_X5_make_121 at h
  refine tq_g_iinc (i := 7) (fun v101 => [.ref 2, .null, .null, .long a3, .null, .int a5, .int a6, .int v101, .null, .null, .null, .null]) (by decide +kernel) rfl (1 : Int32) kc_1 (fun _ => rfl) (fun v101 ev101 => ?_)
  replace h := h v101 ev101
  refine tq_s_goto (off := -83) (tgt := 41) (by decide +kernel) (by decide +kernel) ?_
  exact hB41 _ _ _ _ h
def wc_X5_make_93 (B18 : Int64 → Int32 → Int32 → tq_S → Prop) (B41 : Int64 → Int32 → Int32 → tq_S → Prop) (Q : tq_O → tq_S → Prop) (a3 : Int64) (a6 : Int32) (a7 : Int32) (a8 : Int32) (a9 : Int32) (z : tq_S) : Prop := wm_X5_put a7 a6 a8 z (tq_wv fun z101 => wc_X5_make_121 B18 B41 Q a3 a9 a6 a7 z101)
theorem ac_X5_make_93 {K : Nat × (Nat → Int32)} {x : Nat} {Q : tq_O → tq_S → Prop} {B18 : Int64 → Int32 → Int32 → tq_S → Prop} {B41 : Int64 → Int32 → Int32 → tq_S → Prop} {a3 : Int64} {a6 : Int32} {a7 : Int32} {a8 : Int32} {a9 : Int32} {z : tq_S} (hB18 : ∀ (b3 : Int64) (b5 : Int32) (b6 : Int32) (z : tq_S), B18 b3 b5 b6 z → tq_T K 3 x mm_X5_make 18 [.ref 2, .null, .null, .long b3, .null, .int b5, .int b6, .null, .null, .null, .null, .null] [] z Q) (hB41 : ∀ (b3 : Int64) (b5 : Int32) (b7 : Int32) (z : tq_S), B41 b3 b5 b7 z → tq_T K 3 x mm_X5_make 41 [.ref 2, .null, .null, .long b3, .null, .int b5, .int a6, .int b7, .null, .null, .null, .null] [] z Q) (h : wc_X5_make_93 B18 B41 Q a3 a6 a7 a8 a9 z) : tq_T K 3 x mm_X5_make 93 [.ref 2, .null, .null, .long a3, .null, .null, .int a6, .int a7, .int a8, .int a9, .null, .null] [] z Q := by
  unfold wc_X5_make_93 at h
  refine tq_s_iload (i := 9) (by decide +kernel) rfl ?_
  refine tq_s_istore (i := 5) (L9 := [.ref 2, .null, .null, .long a3, .null, .int a9, .int a6, .int a7, .int a8, .int a9, .null, .null]) (by decide +kernel) (by decide) rfl ?_
  refine tq_s_aload_n (kk := 0) (by decide +kernel) rfl ?_
  refine tq_s_iload (i := 7) (by decide +kernel) rfl ?_
  refine tq_s_iload (i := 6) (by decide +kernel) rfl ?_
  refine tq_s_iload (i := 8) (by decide +kernel) rfl ?_
  refine tq_callV (as := [.int a7, .int a6, .int a8]) (st := []) (d1 := 1) (x1 := 0) (x2 := x) (by decide +kernel) ln_5_89 mf_X5_put rfl sh_2 rfl (by decide) np_X5_put rfl (Nat.le_of_ble_eq_true rfl) (by decide) (Nat.zero_add _).symm (tq_M_mono (am_X5_put h) ?_)
  refine tq_wv_e (fun z101 h => ?_)
  refine tq_s_goto (off := 14) (tgt := 121) (by decide +kernel) (by decide +kernel) ?_
  exact tq_to (tq_lk1 (tq_lk1 (tq_lk1 (tq_lk1 (tq_lk1 (tq_lk1 (tq_lk1 (tq_lk1 (tq_ld1 (tq_ld1 (tq_lk1 (tq_lk1 tq_l0)))))))))))) (ac_X5_make_121 hB18 hB41 h)
def wb_X5_make_56 (B18 : Int64 → Int32 → Int32 → tq_S → Prop) (B41 : Int64 → Int32 → Int32 → tq_S → Prop) (B56 : Int64 → Int32 → tq_S → Prop) (Q : tq_O → tq_S → Prop) (a3 : Int64) (a5 : Int32) (a6 : Int32) (a7 : Int32) (a8 : Int32) (z : tq_S) : Prop := (((4 : Int32) ≤ a8 → wc_X5_make_121 B18 B41 Q a3 a5 a6 a7 z) ∧ (¬ (4 : Int32) ≤ a8 → wm_X5_after a7 a6 a5 a8 z (tq_wi fun r102 z101 => wm_X5_onward a7 r102 z101 (tq_wl fun r104 z103 => ((r104 ≤ a3 → ∀ v105 : Int64, v105 = (a3 - r104) → ∀ v106 : Int32, v106 = a8 + (1 : Int32) → B56 v105 v106 z103) ∧ (¬ r104 ≤ a3 → wc_X5_make_93 B18 B41 Q a3 a6 a7 a8 r102 z103))))))
def wc_X5_make_56 (B18 : Int64 → Int32 → Int32 → tq_S → Prop) (B41 : Int64 → Int32 → Int32 → tq_S → Prop) (Q : tq_O → tq_S → Prop) (a3 : Int64) (a5 : Int32) (a6 : Int32) (a7 : Int32) (a8 : Int32) (z : tq_S) : Prop := tq_lp (σ := Int64 × Int32 × tq_S) (fun B s => wb_X5_make_56 B18 B41 (fun b3 b8 z => B (b3, b8, z)) Q s.1 a5 a6 a7 s.2.1 s.2.2) (a3, a8, z)
theorem ab_X5_make_56 {K : Nat × (Nat → Int32)} {x : Nat} {Q : tq_O → tq_S → Prop} {B18 : Int64 → Int32 → Int32 → tq_S → Prop} {B41 : Int64 → Int32 → Int32 → tq_S → Prop} {B56 : Int64 → Int32 → tq_S → Prop} {a3 : Int64} {a5 : Int32} {a6 : Int32} {a7 : Int32} {a8 : Int32} {z : tq_S} (hB18 : ∀ (b3 : Int64) (b5 : Int32) (b6 : Int32) (z : tq_S), B18 b3 b5 b6 z → tq_T K 3 x mm_X5_make 18 [.ref 2, .null, .null, .long b3, .null, .int b5, .int b6, .null, .null, .null, .null, .null] [] z Q) (hB41 : ∀ (b3 : Int64) (b5 : Int32) (b7 : Int32) (z : tq_S), B41 b3 b5 b7 z → tq_T K 3 x mm_X5_make 41 [.ref 2, .null, .null, .long b3, .null, .int b5, .int a6, .int b7, .null, .null, .null, .null] [] z Q) (hB56 : ∀ (b3 : Int64) (b8 : Int32) (z : tq_S), B56 b3 b8 z → tq_T K 3 x mm_X5_make 56 [.ref 2, .null, .null, .long b3, .null, .int a5, .int a6, .int a7, .int b8, .null, .null, .null] [] z Q) (h : wb_X5_make_56 B18 B41 B56 Q a3 a5 a6 a7 a8 z) : tq_T K 3 x mm_X5_make 56 [.ref 2, .null, .null, .long a3, .null, .int a5, .int a6, .int a7, .int a8, .null, .null, .null] [] z Q := by
  unfold wb_X5_make_56 at h
  refine tq_s_iload (i := 8) (by decide +kernel) rfl ?_
  refine tq_k_ic (n := 4) (v := (4 : Int32)) (by decide +kernel) kc_4 ?_
  refine tq_icmp_ge (off := 62) (tgt := 121) (by decide +kernel) (by decide +kernel) (fun hc => ?_) (fun hc => ?_)
  · replace h := h.1 hc
    exact tq_to (tq_lk1 (tq_lk1 (tq_lk1 (tq_lk1 (tq_lk1 (tq_lk1 (tq_lk1 (tq_lk1 (tq_ld1 (tq_lk1 (tq_lk1 (tq_lk1 tq_l0)))))))))))) (ac_X5_make_121 hB18 hB41 h)
  · replace h := h.2 hc
    refine tq_s_aload_n (kk := 0) (by decide +kernel) rfl ?_
    refine tq_s_iload (i := 7) (by decide +kernel) rfl ?_
    refine tq_s_iload (i := 6) (by decide +kernel) rfl ?_
    refine tq_s_iload (i := 5) (by decide +kernel) rfl ?_
    refine tq_s_iload (i := 8) (by decide +kernel) rfl ?_
    refine tq_callV (as := [.int a7, .int a6, .int a5, .int a8]) (st := []) (d1 := 0) (x1 := 0) (x2 := x) (by decide +kernel) ln_5_81 mf_X5_after rfl sh_2 rfl (by decide) np_X5_after rfl (Nat.le_of_ble_eq_true rfl) (by decide) (Nat.zero_add _).symm (tq_M_mono (am_X5_after h) ?_)
    refine tq_wi_e (fun r102 z101 h => ?_)
    refine tq_s_istore (i := 9) (L9 := [.ref 2, .null, .null, .long a3, .null, .int a5, .int a6, .int a7, .int a8, .int r102, .null, .null]) (by decide +kernel) (by decide) rfl ?_
    refine tq_s_aload_n (kk := 0) (by decide +kernel) rfl ?_
    refine tq_s_iload (i := 7) (by decide +kernel) rfl ?_
    refine tq_s_iload (i := 9) (by decide +kernel) rfl ?_
    refine tq_callV (as := [.int a7, .int r102]) (st := []) (d1 := 0) (x1 := 0) (x2 := x) (by decide +kernel) ln_5_85 mf_X5_onward rfl sh_2 rfl (by decide) np_X5_onward rfl (Nat.le_of_ble_eq_true rfl) (by decide) (Nat.zero_add _).symm (tq_M_mono (am_X5_onward h) ?_)
    refine tq_wl_e (fun r104 z103 h => ?_)
    refine tq_s_lstore (i := 10) (L9 := [.ref 2, .null, .null, .long a3, .null, .int a5, .int a6, .int a7, .int a8, .int r102, .long r104, .null]) (by decide +kernel) (by decide) rfl ?_
    refine tq_s_lload_n (kk := 3) (by decide +kernel) rfl ?_
    refine tq_s_lload (i := 10) (by decide +kernel) rfl ?_
    refine tq_lcmp_ge (off := 20) (tgt := 110) (by decide +kernel) (by decide +kernel) (by decide +kernel) (fun hc => ?_) (fun hc => ?_)
    · replace h := h.1 hc
      refine tq_s_lload_n (kk := 3) (by decide +kernel) rfl ?_
      refine tq_s_lload (i := 10) (by decide +kernel) rfl ?_
      refine tq_s_lsub (by decide +kernel) ?_
      refine tq_g_lstore_n (kk := 3) (fun v105 => [.ref 2, .null, .null, .long v105, .null, .int a5, .int a6, .int a7, .int a8, .int r102, .long r104, .null]) (by decide +kernel) (by decide) (fun _ => rfl) (fun v105 ev105 => ?_)
      replace h := h v105 ev105
      refine tq_g_iinc (i := 8) (fun v106 => [.ref 2, .null, .null, .long v105, .null, .int a5, .int a6, .int a7, .int v106, .int r102, .long r104, .null]) (by decide +kernel) rfl (1 : Int32) kc_1 (fun _ => rfl) (fun v106 ev106 => ?_)
      replace h := h v106 ev106
      refine tq_s_goto (off := -62) (tgt := 56) (by decide +kernel) (by decide +kernel) ?_
      exact tq_to (tq_lk1 (tq_lk1 (tq_lk1 (tq_lk1 (tq_lk1 (tq_lk1 (tq_lk1 (tq_lk1 (tq_lk1 (tq_ld1 (tq_ld1 (tq_lk1 tq_l0)))))))))))) (hB56 _ _ _ h)
    · replace h := h.2 hc
      exact tq_to (tq_lk1 (tq_lk1 (tq_lk1 (tq_lk1 (tq_lk1 (tq_ld1 (tq_lk1 (tq_lk1 (tq_lk1 (tq_lk1 (tq_ld1 (tq_lk1 tq_l0)))))))))))) (ac_X5_make_93 hB18 hB41 h)
theorem ac_X5_make_56 {K : Nat × (Nat → Int32)} {x : Nat} {Q : tq_O → tq_S → Prop} {B18 : Int64 → Int32 → Int32 → tq_S → Prop} {B41 : Int64 → Int32 → Int32 → tq_S → Prop} {a3 : Int64} {a5 : Int32} {a6 : Int32} {a7 : Int32} {a8 : Int32} {z : tq_S} (hB18 : ∀ (b3 : Int64) (b5 : Int32) (b6 : Int32) (z : tq_S), B18 b3 b5 b6 z → tq_T K 3 x mm_X5_make 18 [.ref 2, .null, .null, .long b3, .null, .int b5, .int b6, .null, .null, .null, .null, .null] [] z Q) (hB41 : ∀ (b3 : Int64) (b5 : Int32) (b7 : Int32) (z : tq_S), B41 b3 b5 b7 z → tq_T K 3 x mm_X5_make 41 [.ref 2, .null, .null, .long b3, .null, .int b5, .int a6, .int b7, .null, .null, .null, .null] [] z Q) (h : wc_X5_make_56 B18 B41 Q a3 a5 a6 a7 a8 z) : tq_T K 3 x mm_X5_make 56 [.ref 2, .null, .null, .long a3, .null, .int a5, .int a6, .int a7, .int a8, .null, .null, .null] [] z Q :=
  tq_lp_T (σ := Int64 × Int32 × tq_S) (s := (a3, a8, z)) (G := fun s => tq_T K 3 x mm_X5_make 56 [.ref 2, .null, .null, .long s.1, .null, .int a5, .int a6, .int a7, .int s.2.1, .null, .null, .null] [] s.2.2 Q) (fun B hB s h => ab_X5_make_56 hB18 hB41 (fun b3 b8 z h => hB (b3, b8, z) h) h) h
def wc_X5_make_127 (B18 : Int64 → Int32 → Int32 → tq_S → Prop) (Q : tq_O → tq_S → Prop) (a3 : Int64) (a5 : Int32) (a6 : Int32) (z : tq_S) : Prop := ∀ v101 : Int32, v101 = a6 + (1 : Int32) → B18 a3 a5 v101 z
theorem ac_X5_make_127 {K : Nat × (Nat → Int32)} {x : Nat} {Q : tq_O → tq_S → Prop} {B18 : Int64 → Int32 → Int32 → tq_S → Prop} {a3 : Int64} {a5 : Int32} {a6 : Int32} {z : tq_S} (hB18 : ∀ (b3 : Int64) (b5 : Int32) (b6 : Int32) (z : tq_S), B18 b3 b5 b6 z → tq_T K 3 x mm_X5_make 18 [.ref 2, .null, .null, .long b3, .null, .int b5, .int b6, .null, .null, .null, .null, .null] [] z Q) (h : wc_X5_make_127 B18 Q a3 a5 a6 z) : tq_T K 3 x mm_X5_make 127 [.ref 2, .null, .null, .long a3, .null, .int a5, .int a6, .null, .null, .null, .null, .null] [] z Q := by
  unfold wc_X5_make_127 at h
  refine tq_g_iinc (i := 6) (fun v101 => [.ref 2, .null, .null, .long a3, .null, .int a5, .int v101, .null, .null, .null, .null, .null]) (by decide +kernel) rfl (1 : Int32) kc_1 (fun _ => rfl) (fun v101 ev101 => ?_)
  replace h := h v101 ev101
  refine tq_s_goto (off := -112) (tgt := 18) (by decide +kernel) (by decide +kernel) ?_
  exact hB18 _ _ _ _ h
def wb_X5_make_41 (B18 : Int64 → Int32 → Int32 → tq_S → Prop) (B41 : Int64 → Int32 → Int32 → tq_S → Prop) (Q : tq_O → tq_S → Prop) (a3 : Int64) (a5 : Int32) (a6 : Int32) (a7 : Int32) (z : tq_S) : Prop := (((tq_fi z 64) ≤ a7 → wc_X5_make_127 B18 Q a3 a5 a6 z) ∧ (¬ (tq_fi z 64) ≤ a7 → wc_X5_make_56 B18 B41 Q a3 a5 a6 a7 (0 : Int32) z))
def wc_X5_make_41 (B18 : Int64 → Int32 → Int32 → tq_S → Prop) (Q : tq_O → tq_S → Prop) (a3 : Int64) (a5 : Int32) (a6 : Int32) (a7 : Int32) (z : tq_S) : Prop := tq_lp (σ := Int64 × Int32 × Int32 × tq_S) (fun B s => wb_X5_make_41 B18 (fun b3 b5 b7 z => B (b3, b5, b7, z)) Q s.1 s.2.1 a6 s.2.2.1 s.2.2.2) (a3, a5, a7, z)
theorem ab_X5_make_41 {K : Nat × (Nat → Int32)} {x : Nat} {Q : tq_O → tq_S → Prop} {B18 : Int64 → Int32 → Int32 → tq_S → Prop} {B41 : Int64 → Int32 → Int32 → tq_S → Prop} {a3 : Int64} {a5 : Int32} {a6 : Int32} {a7 : Int32} {z : tq_S} (hB18 : ∀ (b3 : Int64) (b5 : Int32) (b6 : Int32) (z : tq_S), B18 b3 b5 b6 z → tq_T K 3 x mm_X5_make 18 [.ref 2, .null, .null, .long b3, .null, .int b5, .int b6, .null, .null, .null, .null, .null] [] z Q) (hB41 : ∀ (b3 : Int64) (b5 : Int32) (b7 : Int32) (z : tq_S), B41 b3 b5 b7 z → tq_T K 3 x mm_X5_make 41 [.ref 2, .null, .null, .long b3, .null, .int b5, .int a6, .int b7, .null, .null, .null, .null] [] z Q) (h : wb_X5_make_41 B18 B41 Q a3 a5 a6 a7 z) : tq_T K 3 x mm_X5_make 41 [.ref 2, .null, .null, .long a3, .null, .int a5, .int a6, .int a7, .null, .null, .null, .null] [] z Q := by
  unfold wb_X5_make_41 at h
  refine tq_s_iload (i := 7) (by decide +kernel) rfl ?_
  refine tq_s_aload_n (kk := 0) (by decide +kernel) rfl ?_
  refine fg_5_7_2 rfl (by decide +kernel) ?_
  refine fg_5_48_1 rfl (by decide +kernel) ?_
  refine tq_icmp_ge (off := 77) (tgt := 127) (by decide +kernel) (by decide +kernel) (fun hc => ?_) (fun hc => ?_)
  · replace h := h.1 hc
    exact tq_to (tq_lk1 (tq_lk1 (tq_lk1 (tq_lk1 (tq_lk1 (tq_lk1 (tq_lk1 (tq_ld1 (tq_lk1 (tq_lk1 (tq_lk1 (tq_lk1 tq_l0)))))))))))) (ac_X5_make_127 hB18 h)
  · replace h := h.2 hc
    refine tq_k_ic (n := 0) (v := (0 : Int32)) (by decide +kernel) kc_0 ?_
    refine tq_s_istore (i := 8) (L9 := [.ref 2, .null, .null, .long a3, .null, .int a5, .int a6, .int a7, .int (0 : Int32), .null, .null, .null]) (by decide +kernel) (by decide) rfl ?_
    exact ac_X5_make_56 hB18 hB41 h
theorem ac_X5_make_41 {K : Nat × (Nat → Int32)} {x : Nat} {Q : tq_O → tq_S → Prop} {B18 : Int64 → Int32 → Int32 → tq_S → Prop} {a3 : Int64} {a5 : Int32} {a6 : Int32} {a7 : Int32} {z : tq_S} (hB18 : ∀ (b3 : Int64) (b5 : Int32) (b6 : Int32) (z : tq_S), B18 b3 b5 b6 z → tq_T K 3 x mm_X5_make 18 [.ref 2, .null, .null, .long b3, .null, .int b5, .int b6, .null, .null, .null, .null, .null] [] z Q) (h : wc_X5_make_41 B18 Q a3 a5 a6 a7 z) : tq_T K 3 x mm_X5_make 41 [.ref 2, .null, .null, .long a3, .null, .int a5, .int a6, .int a7, .null, .null, .null, .null] [] z Q :=
  tq_lp_T (σ := Int64 × Int32 × Int32 × tq_S) (s := (a3, a5, a7, z)) (G := fun s => tq_T K 3 x mm_X5_make 41 [.ref 2, .null, .null, .long s.1, .null, .int s.2.1, .int a6, .int s.2.2.1, .null, .null, .null, .null] [] s.2.2.2 Q) (fun B hB s h => ab_X5_make_41 hB18 (fun b3 b5 b7 z h => hB (b3, b5, b7, z) h) h) h
def wb_X5_make_18 (B18 : Int64 → Int32 → Int32 → tq_S → Prop) (Q : tq_O → tq_S → Prop) (a3 : Int64) (a5 : Int32) (a6 : Int32) (z : tq_S) : Prop := (((tq_fi z 65) ≤ a6 → Q (.inl none) z) ∧ (¬ (tq_fi z 65) ≤ a6 → wm_X5_prepareRow a6 a5 z (tq_wv fun z101 => wc_X5_make_41 B18 Q a3 a5 a6 (0 : Int32) z101)))
def wc_X5_make_18 (Q : tq_O → tq_S → Prop) (a3 : Int64) (a5 : Int32) (a6 : Int32) (z : tq_S) : Prop := tq_lp (σ := Int64 × Int32 × Int32 × tq_S) (fun B s => wb_X5_make_18 (fun b3 b5 b6 z => B (b3, b5, b6, z)) Q s.1 s.2.1 s.2.2.1 s.2.2.2) (a3, a5, a6, z)
theorem ab_X5_make_18 {K : Nat × (Nat → Int32)} {x : Nat} {Q : tq_O → tq_S → Prop} {B18 : Int64 → Int32 → Int32 → tq_S → Prop} {a3 : Int64} {a5 : Int32} {a6 : Int32} {z : tq_S} (hB18 : ∀ (b3 : Int64) (b5 : Int32) (b6 : Int32) (z : tq_S), B18 b3 b5 b6 z → tq_T K 3 x mm_X5_make 18 [.ref 2, .null, .null, .long b3, .null, .int b5, .int b6, .null, .null, .null, .null, .null] [] z Q) (h : wb_X5_make_18 B18 Q a3 a5 a6 z) : tq_T K 3 x mm_X5_make 18 [.ref 2, .null, .null, .long a3, .null, .int a5, .int a6, .null, .null, .null, .null, .null] [] z Q := by
  unfold wb_X5_make_18 at h
  refine tq_s_iload (i := 6) (by decide +kernel) rfl ?_
  refine tq_s_aload_n (kk := 0) (by decide +kernel) rfl ?_
  refine fg_5_7_2 rfl (by decide +kernel) ?_
  refine fg_5_51_1 rfl (by decide +kernel) ?_
  refine tq_icmp_ge (off := 106) (tgt := 133) (by decide +kernel) (by decide +kernel) (fun hc => ?_) (fun hc => ?_)
  · replace h := h.1 hc
    exact tq_ret_v (st := []) (by decide +kernel) rfl h
  · replace h := h.2 hc
    refine tq_s_aload_n (kk := 0) (by decide +kernel) rfl ?_
    refine tq_s_iload (i := 6) (by decide +kernel) rfl ?_
    refine tq_s_iload (i := 5) (by decide +kernel) rfl ?_
    refine tq_callV (as := [.int a6, .int a5]) (st := []) (d1 := 2) (x1 := 0) (x2 := x) (by decide +kernel) ln_5_67 mf_X5_prepareRow rfl sh_2 rfl (by decide) np_X5_prepareRow rfl (Nat.le_of_ble_eq_true rfl) (by decide) (Nat.zero_add _).symm (tq_M_mono (am_X5_prepareRow h) ?_)
    refine tq_wv_e (fun z101 h => ?_)
    refine tq_k_ic (n := 0) (v := (0 : Int32)) (by decide +kernel) kc_0 ?_
    refine tq_s_istore (i := 7) (L9 := [.ref 2, .null, .null, .long a3, .null, .int a5, .int a6, .int (0 : Int32), .null, .null, .null, .null]) (by decide +kernel) (by decide) rfl ?_
    exact ac_X5_make_41 hB18 h
theorem ac_X5_make_18 {K : Nat × (Nat → Int32)} {x : Nat} {Q : tq_O → tq_S → Prop} {a3 : Int64} {a5 : Int32} {a6 : Int32} {z : tq_S} (h : wc_X5_make_18 Q a3 a5 a6 z) : tq_T K 3 x mm_X5_make 18 [.ref 2, .null, .null, .long a3, .null, .int a5, .int a6, .null, .null, .null, .null, .null] [] z Q :=
  tq_lp_T (σ := Int64 × Int32 × Int32 × tq_S) (s := (a3, a5, a6, z)) (G := fun s => tq_T K 3 x mm_X5_make 18 [.ref 2, .null, .null, .long s.1, .null, .int s.2.1, .int s.2.2.1, .null, .null, .null, .null, .null] [] s.2.2.2 Q) (fun B hB s h => ab_X5_make_18 (fun b3 b5 b6 z h => hB (b3, b5, b6, z) h) h) h
def wm_X5_make (a1 : Int64) (z : tq_S) (Q : tq_O → tq_S → Prop) : Prop := ∀ z1 : tq_S, z1 = tq_sfl z 136 (0 : Int64) → ∀ z2 : tq_S, z2 = tq_sfl z1 137 (0 : Int64) → wc_X5_make_18 Q a1 (0 : Int32) (0 : Int32) z2
theorem am_X5_make {K : Nat × (Nat → Int32)} {x : Nat} {z : tq_S} {Q : tq_O → tq_S → Prop} {a1 : Int64} (h : wm_X5_make a1 z Q) : tq_M K 3 x mm_X5_make [.ref 2, .long a1] z Q := by
  unfold wm_X5_make at h
  refine tq_enter (L := [.ref 2, .long a1, .null, .null, .null, .null, .null, .null, .null, .null, .null, .null]) mf_X5_make.1 rfl rfl (Nat.le_of_ble_eq_true rfl) ?_
  refine tq_s_lload_n (kk := 1) (by decide +kernel) rfl ?_
  refine tq_s_lstore_n (kk := 3) (L9 := [.ref 2, .long a1, .null, .long a1, .null, .null, .null, .null, .null, .null, .null, .null]) (by decide +kernel) (by decide) rfl ?_
  refine tq_k_ic (n := 0) (v := (0 : Int32)) (by decide +kernel) kc_0 ?_
  refine tq_s_istore (i := 5) (L9 := [.ref 2, .long a1, .null, .long a1, .null, .int (0 : Int32), .null, .null, .null, .null, .null, .null]) (by decide +kernel) (by decide) rfl ?_
  refine tq_s_aload_n (kk := 0) (by decide +kernel) rfl ?_
  refine tq_k_lc (n := 0) (v := (0 : Int64)) (by decide +kernel) (by decide +kernel) ?_
  refine fp_5_38_2 rfl (by decide +kernel) (fun z1 ez1 => ?_)
  replace h := h z1 ez1
  refine tq_s_aload_n (kk := 0) (by decide +kernel) rfl ?_
  refine tq_k_lc (n := 0) (v := (0 : Int64)) (by decide +kernel) (by decide +kernel) ?_
  refine fp_5_42_2 rfl (by decide +kernel) (fun z2 ez2 => ?_)
  replace h := h z2 ez2
  refine tq_k_ic (n := 0) (v := (0 : Int32)) (by decide +kernel) kc_0 ?_
  refine tq_s_istore (i := 6) (L9 := [.ref 2, .long a1, .null, .long a1, .null, .int (0 : Int32), .int (0 : Int32), .null, .null, .null, .null, .null]) (by decide +kernel) (by decide) rfl ?_
  exact tq_to (tq_lk1 (tq_ld1 (tq_lk1 (tq_lk1 (tq_lk1 (tq_lk1 (tq_lk1 (tq_lk1 (tq_lk1 (tq_lk1 (tq_lk1 (tq_lk1 tq_l0)))))))))))) (ac_X5_make_18 h)
def wb_X2_dropOldest_8 (B8 : Int32 → tq_S → Prop) (Q : tq_O → tq_S → Prop) (a1 : Int32) (z : tq_S) : Prop := (((tq_fi z 522) ≤ a1 → Q (.inl none) z) ∧ (¬ (tq_fi z 522) ≤ a1 → vp_in (a1 + (1 : Int32)) 10 ∧ vp_in a1 10 ∧ ∀ z101 : tq_S, z101 = tq_sal z 9 (vp_updL (tq_al z 9) (Int32.toNatClampNeg a1) (tq_al z 9 (Int32.toNatClampNeg (a1 + (1 : Int32))))) → vp_in (a1 + (1 : Int32)) 10 ∧ vp_in a1 10 ∧ ∀ z102 : tq_S, z102 = tq_sal z101 10 (vp_updL (tq_al z101 10) (Int32.toNatClampNeg a1) (tq_al z101 10 (Int32.toNatClampNeg (a1 + (1 : Int32))))) → vp_in (a1 + (1 : Int32)) 10 ∧ vp_in a1 10 ∧ ∀ z103 : tq_S, z103 = tq_sai z102 11 (upd (tq_ai z102 11) (Int32.toNatClampNeg a1) (vp_nar .boolean (tq_ai z102 11 (Int32.toNatClampNeg (a1 + (1 : Int32)))))) → ∀ v104 : Int32, v104 = a1 + (1 : Int32) → B8 v104 z103))
def wc_X2_dropOldest_8 (Q : tq_O → tq_S → Prop) (a1 : Int32) (z : tq_S) : Prop := tq_lp (σ := Int32 × tq_S) (fun B s => wb_X2_dropOldest_8 (fun b1 z => B (b1, z)) Q s.1 s.2) (a1, z)
theorem ab_X2_dropOldest_8 {K : Nat × (Nat → Int32)} {x : Nat} {Q : tq_O → tq_S → Prop} {B8 : Int32 → tq_S → Prop} {a1 : Int32} {z : tq_S} (hB8 : ∀ (b1 : Int32) (z : tq_S), B8 b1 z → tq_T K 0 x mm_X2_dropOldest 8 [.ref 8, .int b1] [] z Q) (h : wb_X2_dropOldest_8 B8 Q a1 z) : tq_T K 0 x mm_X2_dropOldest 8 [.ref 8, .int a1] [] z Q := by
  unfold wb_X2_dropOldest_8 at h
  refine tq_s_iload_n (kk := 1) (by decide +kernel) rfl ?_
  refine tq_s_aload_n (kk := 0) (by decide +kernel) rfl ?_
  refine fg_2_24_8 rfl (by decide +kernel) ?_
  refine tq_icmp_ge (off := 51) (tgt := 64) (by decide +kernel) (by decide +kernel) (fun hc => ?_) (fun hc => ?_)
  · replace h := h.1 hc
    exact tq_ret_v (st := []) (by decide +kernel) rfl h
  · replace h := h.2 hc
    refine tq_s_aload_n (kk := 0) (by decide +kernel) rfl ?_
    refine fg_2_13_8 rfl (by decide +kernel) ?_
    refine tq_s_iload_n (kk := 1) (by decide +kernel) rfl ?_
    refine tq_s_aload_n (kk := 0) (by decide +kernel) rfl ?_
    refine fg_2_13_8 rfl (by decide +kernel) ?_
    refine tq_s_iload_n (kk := 1) (by decide +kernel) rfl ?_
    refine tq_k_ic (n := 1) (v := (1 : Int32)) (by decide +kernel) kc_1 ?_
    refine tq_s_iadd (by decide +kernel) ?_
    refine tq_s_lald (by decide +kernel) sh_9 h.1 ?_
    replace h := h.2
    refine tq_g_last (by decide +kernel) sh_9 h.1 (fun z101 ez101 => ?_)
    replace h := h.2 z101 ez101
    refine tq_s_aload_n (kk := 0) (by decide +kernel) rfl ?_
    refine fg_2_17_8 rfl (by decide +kernel) ?_
    refine tq_s_iload_n (kk := 1) (by decide +kernel) rfl ?_
    refine tq_s_aload_n (kk := 0) (by decide +kernel) rfl ?_
    refine fg_2_17_8 rfl (by decide +kernel) ?_
    refine tq_s_iload_n (kk := 1) (by decide +kernel) rfl ?_
    refine tq_k_ic (n := 1) (v := (1 : Int32)) (by decide +kernel) kc_1 ?_
    refine tq_s_iadd (by decide +kernel) ?_
    refine tq_s_lald (by decide +kernel) sh_10 h.1 ?_
    replace h := h.2
    refine tq_g_last (by decide +kernel) sh_10 h.1 (fun z102 ez102 => ?_)
    replace h := h.2 z102 ez102
    refine tq_s_aload_n (kk := 0) (by decide +kernel) rfl ?_
    refine fg_2_20_8 rfl (by decide +kernel) ?_
    refine tq_s_iload_n (kk := 1) (by decide +kernel) rfl ?_
    refine tq_s_aload_n (kk := 0) (by decide +kernel) rfl ?_
    refine fg_2_20_8 rfl (by decide +kernel) ?_
    refine tq_s_iload_n (kk := 1) (by decide +kernel) rfl ?_
    refine tq_k_ic (n := 1) (v := (1 : Int32)) (by decide +kernel) kc_1 ?_
    refine tq_s_iadd (by decide +kernel) ?_
    refine tq_s_zald (by decide +kernel) sh_11 h.1 ?_
    replace h := h.2
    refine tq_g_zast (by decide +kernel) sh_11 h.1 (fun z103 ez103 => ?_)
    replace h := h.2 z103 ez103
    refine tq_g_iinc (i := 1) (fun v104 => [.ref 8, .int v104]) (by decide +kernel) rfl (1 : Int32) kc_1 (fun _ => rfl) (fun v104 ev104 => ?_)
    replace h := h v104 ev104
    refine tq_s_goto (off := -53) (tgt := 8) (by decide +kernel) (by decide +kernel) ?_
    exact hB8 _ _ h
theorem ac_X2_dropOldest_8 {K : Nat × (Nat → Int32)} {x : Nat} {Q : tq_O → tq_S → Prop} {a1 : Int32} {z : tq_S} (h : wc_X2_dropOldest_8 Q a1 z) : tq_T K 0 x mm_X2_dropOldest 8 [.ref 8, .int a1] [] z Q :=
  tq_lp_T (σ := Int32 × tq_S) (s := (a1, z)) (G := fun s => tq_T K 0 x mm_X2_dropOldest 8 [.ref 8, .int s.1] [] s.2 Q) (fun B hB s h => ab_X2_dropOldest_8 (fun b1 z h => hB (b1, z) h) h) h
def wm_X2_dropOldest  (z : tq_S) (Q : tq_O → tq_S → Prop) : Prop := ∀ z1 : tq_S, z1 = tq_sfi z 522 (9 : Int32) → wc_X2_dropOldest_8 Q (0 : Int32) z1
theorem am_X2_dropOldest {K : Nat × (Nat → Int32)} {x : Nat} {z : tq_S} {Q : tq_O → tq_S → Prop}  (h : wm_X2_dropOldest z Q) : tq_M K 0 x mm_X2_dropOldest [.ref 8] z Q := by
  unfold wm_X2_dropOldest at h
  refine tq_enter (L := [.ref 8, .null]) mf_X2_dropOldest.1 rfl rfl (Nat.le_of_ble_eq_true rfl) ?_
  refine tq_s_aload_n (kk := 0) (by decide +kernel) rfl ?_
  refine tq_k_bi (n := 9) (v := (9 : Int32)) (by decide +kernel) kb_9 ?_
  refine fp_2_24_8 rfl (by decide +kernel) (fun z1 ez1 => ?_)
  replace h := h z1 ez1
  refine tq_k_ic (n := 0) (v := (0 : Int32)) (by decide +kernel) kc_0 ?_
  refine tq_s_istore_n (kk := 1) (L9 := [.ref 8, .int (0 : Int32)]) (by decide +kernel) (by decide) rfl ?_
  exact ac_X2_dropOldest_8 h
def wc_X2_take_13 (Q : tq_O → tq_S → Prop) (a1 : Int64) (a3 : Int64) (z : tq_S) : Prop := vp_in (tq_fi z 522) 10 ∧ ∀ z101 : tq_S, z101 = tq_sal z 9 (vp_updL (tq_al z 9) (Int32.toNatClampNeg (tq_fi z 522)) (tq_fl z 517)) → vp_in (tq_fi z101 522) 10 ∧ ∀ z102 : tq_S, z102 = tq_sal z101 10 (vp_updL (tq_al z101 10) (Int32.toNatClampNeg (tq_fi z101 522)) (tq_fl z101 518)) → vp_in (tq_fi z102 522) 10 ∧ ∀ z103 : tq_S, z103 = tq_sai z102 11 (upd (tq_ai z102 11) (Int32.toNatClampNeg (tq_fi z102 522)) (vp_nar .boolean (tq_fi z102 516))) → ∀ z104 : tq_S, z104 = tq_sfi z103 522 ((tq_fi z103 522) + (1 : Int32)) → ∀ z105 : tq_S, z105 = tq_sfl z104 517 a1 → ∀ z106 : tq_S, z106 = tq_sfl z105 518 a3 → ∀ z107 : tq_S, z107 = tq_sfi z106 516 (1 : Int32) → Q (.inl none) z107
theorem ac_X2_take_13 {K : Nat × (Nat → Int32)} {x : Nat} {Q : tq_O → tq_S → Prop} {a1 : Int64} {a3 : Int64} {z : tq_S} (h : wc_X2_take_13 Q a1 a3 z) : tq_T K 1 x mm_X2_take 13 [.ref 8, .long a1, .null, .long a3, .null] [] z Q := by
  unfold wc_X2_take_13 at h
  refine tq_s_aload_n (kk := 0) (by decide +kernel) rfl ?_
  refine fg_2_13_8 rfl (by decide +kernel) ?_
  refine tq_s_aload_n (kk := 0) (by decide +kernel) rfl ?_
  refine fg_2_24_8 rfl (by decide +kernel) ?_
  refine tq_s_aload_n (kk := 0) (by decide +kernel) rfl ?_
  refine fg_2_35_8 rfl (by decide +kernel) ?_
  refine tq_g_last (by decide +kernel) sh_9 h.1 (fun z101 ez101 => ?_)
  replace h := h.2 z101 ez101
  refine tq_s_aload_n (kk := 0) (by decide +kernel) rfl ?_
  refine fg_2_17_8 rfl (by decide +kernel) ?_
  refine tq_s_aload_n (kk := 0) (by decide +kernel) rfl ?_
  refine fg_2_24_8 rfl (by decide +kernel) ?_
  refine tq_s_aload_n (kk := 0) (by decide +kernel) rfl ?_
  refine fg_2_39_8 rfl (by decide +kernel) ?_
  refine tq_g_last (by decide +kernel) sh_10 h.1 (fun z102 ez102 => ?_)
  replace h := h.2 z102 ez102
  refine tq_s_aload_n (kk := 0) (by decide +kernel) rfl ?_
  refine fg_2_20_8 rfl (by decide +kernel) ?_
  refine tq_s_aload_n (kk := 0) (by decide +kernel) rfl ?_
  refine fg_2_24_8 rfl (by decide +kernel) ?_
  refine tq_s_aload_n (kk := 0) (by decide +kernel) rfl ?_
  refine fg_2_28_8 rfl (by decide +kernel) ?_
  refine tq_g_zast (by decide +kernel) sh_11 h.1 (fun z103 ez103 => ?_)
  replace h := h.2 z103 ez103
  refine tq_s_aload_n (kk := 0) (by decide +kernel) rfl ?_
  refine tq_s_dup (by decide +kernel) rfl ?_
  refine fg_2_24_8 rfl (by decide +kernel) ?_
  refine tq_k_ic (n := 1) (v := (1 : Int32)) (by decide +kernel) kc_1 ?_
  refine tq_s_iadd (by decide +kernel) ?_
  refine fp_2_24_8 rfl (by decide +kernel) (fun z104 ez104 => ?_)
  replace h := h z104 ez104
  refine tq_s_aload_n (kk := 0) (by decide +kernel) rfl ?_
  refine tq_s_lload_n (kk := 1) (by decide +kernel) rfl ?_
  refine fp_2_35_8 rfl (by decide +kernel) (fun z105 ez105 => ?_)
  replace h := h z105 ez105
  refine tq_s_aload_n (kk := 0) (by decide +kernel) rfl ?_
  refine tq_s_lload_n (kk := 3) (by decide +kernel) rfl ?_
  refine fp_2_39_8 rfl (by decide +kernel) (fun z106 ez106 => ?_)
  replace h := h z106 ez106
  refine tq_s_aload_n (kk := 0) (by decide +kernel) rfl ?_
  refine tq_k_ic (n := 1) (v := (1 : Int32)) (by decide +kernel) kc_1 ?_
  refine fp_2_28_8 rfl (by decide +kernel) ⟨by decide +kernel, by decide +kernel⟩ (fun z107 ez107 => ?_)
  replace h := h z107 ez107
  exact tq_ret_v (st := []) (by decide +kernel) rfl h
def wm_X2_take (a1 : Int64) (a3 : Int64) (z : tq_S) (Q : tq_O → tq_S → Prop) : Prop := (((tq_fi z 522) < (10 : Int32) → wc_X2_take_13 Q a1 a3 z) ∧ (¬ (tq_fi z 522) < (10 : Int32) → wm_X2_dropOldest z (tq_wv fun z1 => wc_X2_take_13 Q a1 a3 z1)))
theorem am_X2_take {K : Nat × (Nat → Int32)} {x : Nat} {z : tq_S} {Q : tq_O → tq_S → Prop} {a1 : Int64} {a3 : Int64} (h : wm_X2_take a1 a3 z Q) : tq_M K 1 x mm_X2_take [.ref 8, .long a1, .long a3] z Q := by
  unfold wm_X2_take at h
  refine tq_enter (L := [.ref 8, .long a1, .null, .long a3, .null]) mf_X2_take.1 rfl rfl (Nat.le_of_ble_eq_true rfl) ?_
  refine tq_s_aload_n (kk := 0) (by decide +kernel) rfl ?_
  refine fg_2_24_8 rfl (by decide +kernel) ?_
  refine tq_k_bi (n := 10) (v := (10 : Int32)) (by decide +kernel) kb_10 ?_
  refine tq_icmp_lt (off := 7) (tgt := 13) (by decide +kernel) (by decide +kernel) (fun hc => ?_) (fun hc => ?_)
  · replace h := h.1 hc
    exact ac_X2_take_13 h
  · replace h := h.2 hc
    refine tq_s_aload_n (kk := 0) (by decide +kernel) rfl ?_
    refine tq_callV (as := []) (st := []) (d1 := 0) (x1 := 0) (x2 := x) (by decide +kernel) ln_2_42 mf_X2_dropOldest rfl sh_8 rfl (by decide) np_X2_dropOldest rfl (Nat.le_of_ble_eq_true rfl) (by decide) (Nat.zero_add _).symm (tq_M_mono (am_X2_dropOldest h) ?_)
    refine tq_wv_e (fun z1 h => ?_)
    exact ac_X2_take_13 h
def wm_X11_show (a1 : Int64) (z : tq_S) (Q : tq_O → tq_S → Prop) : Prop := wm_X5_make a1 z (tq_wv fun z1 => wm_X2_take (tq_fl z1 136) (tq_fl z1 137) z1 (tq_wv fun z2 => Q (.inl none) z2))
theorem am_X11_show {K : Nat × (Nat → Int32)} {x : Nat} {z : tq_S} {Q : tq_O → tq_S → Prop} {a1 : Int64} (h : wm_X11_show a1 z Q) : tq_M K 4 x mm_X11_show [.ref 0, .long a1] z Q := by
  unfold wm_X11_show at h
  refine tq_enter (L := [.ref 0, .long a1, .null]) mf_X11_show.1 rfl rfl (Nat.le_of_ble_eq_true rfl) ?_
  refine tq_s_aload_n (kk := 0) (by decide +kernel) rfl ?_
  refine fg_11_21_0 rfl (by decide +kernel) ?_
  refine tq_s_lload_n (kk := 1) (by decide +kernel) rfl ?_
  refine tq_callVN (as := [.long a1]) (st := []) (d1 := 3) (x1 := 0) (x2 := x) (by decide +kernel) ln_11_474 mf_X5_make rfl sh_2 rfl (by decide) np_X5_make rfl (Nat.le_of_ble_eq_true rfl) (by decide) (Nat.zero_add _).symm (tq_M_mono (am_X5_make h) ?_)
  refine tq_wv_e (fun z1 h => ?_)
  refine tq_s_aload_n (kk := 0) (by decide +kernel) rfl ?_
  refine fg_11_28_0 rfl (by decide +kernel) ?_
  refine tq_s_aload_n (kk := 0) (by decide +kernel) rfl ?_
  refine fg_11_21_0 rfl (by decide +kernel) ?_
  refine fg_11_477_2 rfl (by decide +kernel) ?_
  refine tq_s_aload_n (kk := 0) (by decide +kernel) rfl ?_
  refine fg_11_21_0 rfl (by decide +kernel) ?_
  refine fg_11_480_2 rfl (by decide +kernel) ?_
  refine tq_callVN (as := [.long (tq_fl z1 136), .long (tq_fl z1 137)]) (st := []) (d1 := 1) (x1 := 0) (x2 := x) (by decide +kernel) ln_11_272 mf_X2_take rfl sh_8 rfl (by decide) np_X2_take rfl (Nat.le_of_ble_eq_true rfl) (by decide) (Nat.zero_add _).symm (tq_M_mono (am_X2_take h) ?_)
  refine tq_wv_e (fun z2 h => ?_)
  exact tq_ret_v (st := []) (by decide +kernel) rfl h
def wm_X11_draw (a1 : Int64) (z : tq_S) (Q : tq_O → tq_S → Prop) : Prop := wm_X5_total z (tq_wl fun r2 z1 => (((0 : Int64) < r2 → wm_J9_floorMod_f86c9 a1 r2 z1 (tq_wl fun r4 z3 => wm_X11_show r4 z3 (tq_wv fun z5 => wm_X1_size z5 (tq_wi fun r7 z6 => Q (.inl (some (.int (r7 / (2 : Int32))))) z6)))) ∧ (¬ (0 : Int64) < r2 → Q (.inr 5) z1)))
theorem am_X11_draw {K : Nat × (Nat → Int32)} {z : tq_S} {Q : tq_O → tq_S → Prop} {a1 : Int64} (h : wm_X11_draw a1 z Q) : tq_M K 5 1 mm_X11_draw [.ref 0, .long a1] z Q := by
  unfold wm_X11_draw at h
  refine tq_enter (L := [.ref 0, .long a1, .null, .null, .null]) mf_X11_draw.1 rfl rfl (Nat.le_of_ble_eq_true rfl) ?_
  refine tq_s_aload_n (kk := 0) (by decide +kernel) rfl ?_
  refine fg_11_21_0 rfl (by decide +kernel) ?_
  refine tq_callVN (as := []) (st := []) (d1 := 3) (x1 := 0) (x2 := 1) (by decide +kernel) ln_11_192 mf_X5_total rfl sh_2 rfl (by decide) np_X5_total rfl (Nat.le_of_ble_eq_true rfl) (by decide) (Nat.zero_add _).symm (tq_M_mono (am_X5_total h) ?_)
  refine tq_wl_e (fun r2 z1 h => ?_)
  refine tq_s_lstore_n (kk := 3) (L9 := [.ref 0, .long a1, .null, .long r2, .null]) (by decide +kernel) (by decide) rfl ?_
  refine tq_s_lload_n (kk := 3) (by decide +kernel) rfl ?_
  refine tq_k_lc (n := 0) (v := (0 : Int64)) (by decide +kernel) (by decide +kernel) ?_
  refine tq_lcmp_gt (off := 13) (tgt := 24) (by decide +kernel) (by decide +kernel) (by decide +kernel) (fun hc => ?_) (fun hc => ?_)
  · replace h := h.1 hc
    refine tq_s_aload_n (kk := 0) (by decide +kernel) rfl ?_
    refine tq_s_lload_n (kk := 1) (by decide +kernel) rfl ?_
    refine tq_s_lload_n (kk := 3) (by decide +kernel) rfl ?_
    refine tq_callS (as := [.long a1, .long r2]) (st := [.ref 0]) (d1 := 0) (x1 := 0) (x2 := 1) (by decide +kernel) ln_11_228 mf_J9_floorMod_f86c9 rfl (by decide) np_J9_floorMod_f86c9 rfl (Nat.le_of_ble_eq_true rfl) (by decide) (Nat.zero_add _).symm (tq_M_mono (am_J9_floorMod_f86c9 h) ?_)
    refine tq_wl_e (fun r4 z3 h => ?_)
    refine tq_callV (as := [.long r4]) (st := []) (d1 := 4) (x1 := 0) (x2 := 1) (by decide +kernel) ln_11_234 mf_X11_show rfl sh_0 rfl (by decide) np_X11_show rfl (Nat.le_of_ble_eq_true rfl) (by decide) (Nat.zero_add _).symm (tq_M_mono (am_X11_show h) ?_)
    refine tq_wv_e (fun z5 h => ?_)
    refine tq_s_aload_n (kk := 0) (by decide +kernel) rfl ?_
    refine fg_11_10_0 rfl (by decide +kernel) ?_
    refine tq_callVN (as := []) (st := []) (d1 := 1) (x1 := 0) (x2 := 1) (by decide +kernel) ln_11_123 mf_X1_size rfl sh_1 rfl (by decide) np_X1_size rfl (Nat.le_of_ble_eq_true rfl) (by decide) (Nat.zero_add _).symm (tq_M_mono (am_X1_size h) ?_)
    refine tq_wi_e (fun r7 z6 h => ?_)
    refine tq_k_ic (n := 2) (v := (2 : Int32)) (by decide +kernel) kc_2 ?_
    refine tq_s_idiv (by decide +kernel) (by decide +kernel) ?_
    exact tq_ret_i (st := []) (by decide +kernel) rfl h
  · replace h := h.2 hc
    exact tq_throwN th_11_223_225 rfl (by decide +kernel) (by decide +kernel) (by decide +kernel) (by decide +kernel) (by decide +kernel) (Nat.le_of_ble_eq_true rfl) rfl (Nat.le_refl 1) h
def wm_X5_wayTaken (a1 : Int32) (a2 : Int32) (a3 : Int32) (a4 : Int64) (a6 : Int64) (z : tq_S) (Q : tq_O → tq_S → Prop) : Prop := wm_X5_after a1 a2 a3 (0 : Int32) z (tq_wi fun r2 z1 => ((r2 < 0 → wm_X1_bit a1 a2 z1 (tq_wl fun r4 z3 => (((a4 &&& r4) = (0 : Int64) → (((a6 &&& r4) = (0 : Int64) → Q (.inl (some (.int (3 : Int32)))) z3) ∧ (¬ (a6 &&& r4) = (0 : Int64) → Q (.inl (some (.int (2 : Int32)))) z3))) ∧ (¬ (a4 &&& r4) = (0 : Int64) → Q (.inl (some (.int (1 : Int32)))) z3)))) ∧ (¬ r2 < 0 → Q (.inl (some (.int (0 : Int32)))) z1)))
theorem am_X5_wayTaken {K : Nat × (Nat → Int32)} {x : Nat} {z : tq_S} {Q : tq_O → tq_S → Prop} {a1 : Int32} {a2 : Int32} {a3 : Int32} {a4 : Int64} {a6 : Int64} (h : wm_X5_wayTaken a1 a2 a3 a4 a6 z Q) : tq_M K 1 x mm_X5_wayTaken [.ref 2, .int a1, .int a2, .int a3, .long a4, .long a6] z Q := by
  unfold wm_X5_wayTaken at h
  refine tq_enter (L := [.ref 2, .int a1, .int a2, .int a3, .long a4, .null, .long a6, .null, .null, .null]) mf_X5_wayTaken.1 rfl rfl (Nat.le_of_ble_eq_true rfl) ?_
  refine tq_s_aload_n (kk := 0) (by decide +kernel) rfl ?_
  refine tq_s_iload_n (kk := 1) (by decide +kernel) rfl ?_
  refine tq_s_iload_n (kk := 2) (by decide +kernel) rfl ?_
  refine tq_s_iload_n (kk := 3) (by decide +kernel) rfl ?_
  refine tq_k_ic (n := 0) (v := (0 : Int32)) (by decide +kernel) kc_0 ?_
  refine tq_callV (as := [.int a1, .int a2, .int a3, .int (0 : Int32)]) (st := []) (d1 := 0) (x1 := 0) (x2 := x) (by decide +kernel) ln_5_81 mf_X5_after rfl sh_2 rfl (by decide) np_X5_after rfl (Nat.le_of_ble_eq_true rfl) (by decide) (Nat.zero_add _).symm (tq_M_mono (am_X5_after h) ?_)
  refine tq_wi_e (fun r2 z1 h => ?_)
  refine tq_if_lt (off := 5) (tgt := 13) (by decide +kernel) (by decide +kernel) (fun hc => ?_) (fun hc => ?_)
  · replace h := h.1 hc
    refine tq_s_iload_n (kk := 1) (by decide +kernel) rfl ?_
    refine tq_s_iload_n (kk := 2) (by decide +kernel) rfl ?_
    refine tq_callSN (as := [.int a1, .int a2]) (st := []) (d1 := 0) (x1 := 0) (x2 := x) (by decide +kernel) ln_5_93 mf_X1_bit rfl (by decide) np_X1_bit rfl (Nat.le_of_ble_eq_true rfl) (by decide) (Nat.zero_add _).symm (tq_M_mono (am_X1_bit h) ?_)
    refine tq_wl_e (fun r4 z3 h => ?_)
    refine tq_s_lstore (i := 8) (L9 := [.ref 2, .int a1, .int a2, .int a3, .long a4, .null, .long a6, .null, .long r4, .null]) (by decide +kernel) (by decide) rfl ?_
    refine tq_s_lload (i := 4) (by decide +kernel) rfl ?_
    refine tq_s_lload (i := 8) (by decide +kernel) rfl ?_
    refine tq_s_land (by decide +kernel) ?_
    refine tq_k_lc (n := 0) (v := (0 : Int64)) (by decide +kernel) (by decide +kernel) ?_
    refine tq_lcmp_eq (off := 5) (tgt := 32) (by decide +kernel) (by decide +kernel) (by decide +kernel) (fun hc => ?_) (fun hc => ?_)
    · replace h := h.1 hc
      refine tq_s_lload (i := 6) (by decide +kernel) rfl ?_
      refine tq_s_lload (i := 8) (by decide +kernel) rfl ?_
      refine tq_s_land (by decide +kernel) ?_
      refine tq_k_lc (n := 0) (v := (0 : Int64)) (by decide +kernel) (by decide +kernel) ?_
      refine tq_lcmp_eq (off := 7) (tgt := 46) (by decide +kernel) (by decide +kernel) (by decide +kernel) (fun hc => ?_) (fun hc => ?_)
      · replace h := h.1 hc
        refine tq_k_ic (n := 3) (v := (3 : Int32)) (by decide +kernel) kc_3 ?_
        exact tq_ret_i (st := []) (by decide +kernel) rfl h
      · replace h := h.2 hc
        refine tq_k_ic (n := 2) (v := (2 : Int32)) (by decide +kernel) kc_2 ?_
        refine tq_s_goto (off := 4) (tgt := 47) (by decide +kernel) (by decide +kernel) ?_
        exact tq_ret_i (st := []) (by decide +kernel) rfl h
    · replace h := h.2 hc
      refine tq_k_ic (n := 1) (v := (1 : Int32)) (by decide +kernel) kc_1 ?_
      exact tq_ret_i (st := []) (by decide +kernel) rfl h
  · replace h := h.2 hc
    refine tq_k_ic (n := 0) (v := (0 : Int32)) (by decide +kernel) kc_0 ?_
    exact tq_ret_i (st := []) (by decide +kernel) rfl h
def wc_X5_rank_97 (B9 : Int64 → Int32 → Int32 → tq_S → Prop) (B32 : Int64 → Int32 → Int32 → tq_S → Prop) (Q : tq_O → tq_S → Prop) (a1 : Int64) (a3 : Int64) (a5 : Int64) (a7 : Int32) (a8 : Int32) (a9 : Int32) (a10 : Int32) (z : tq_S) : Prop := wm_X5_after a9 a8 a7 a10 z (tq_wi fun r102 z101 => ((0 ≤ r102 → ∀ v103 : Int32, v103 = a9 + (1 : Int32) → B32 a5 r102 v103 z101) ∧ (¬ 0 ≤ r102 → Q (.inl (some (.long (-1 : Int64)))) z101)))
theorem ac_X5_rank_97 {K : Nat × (Nat → Int32)} {x : Nat} {Q : tq_O → tq_S → Prop} {B9 : Int64 → Int32 → Int32 → tq_S → Prop} {B32 : Int64 → Int32 → Int32 → tq_S → Prop} {a1 : Int64} {a3 : Int64} {a5 : Int64} {a7 : Int32} {a8 : Int32} {a9 : Int32} {a10 : Int32} {z : tq_S} (hB9 : ∀ (b5 : Int64) (b7 : Int32) (b8 : Int32) (z : tq_S), B9 b5 b7 b8 z → tq_T K 3 x mm_X5_rank 9 [.ref 2, .long a1, .null, .long a3, .null, .long b5, .null, .int b7, .int b8, .null, .null, .null] [] z Q) (hB32 : ∀ (b5 : Int64) (b7 : Int32) (b9 : Int32) (z : tq_S), B32 b5 b7 b9 z → tq_T K 3 x mm_X5_rank 32 [.ref 2, .long a1, .null, .long a3, .null, .long b5, .null, .int b7, .int a8, .int b9, .null, .null] [] z Q) (h : wc_X5_rank_97 B9 B32 Q a1 a3 a5 a7 a8 a9 a10 z) : tq_T K 3 x mm_X5_rank 97 [.ref 2, .long a1, .null, .long a3, .null, .long a5, .null, .int a7, .int a8, .int a9, .int a10, .null] [] z Q := by
  unfold wc_X5_rank_97 at h
  refine tq_s_aload_n (kk := 0) (by decide +kernel) rfl ?_
  refine tq_s_iload (i := 9) (by decide +kernel) rfl ?_
  refine tq_s_iload (i := 8) (by decide +kernel) rfl ?_
  refine tq_s_iload (i := 7) (by decide +kernel) rfl ?_
  refine tq_s_iload (i := 10) (by decide +kernel) rfl ?_
  refine tq_callV (as := [.int a9, .int a8, .int a7, .int a10]) (st := []) (d1 := 0) (x1 := 0) (x2 := x) (by decide +kernel) ln_5_81 mf_X5_after rfl sh_2 rfl (by decide) np_X5_after rfl (Nat.le_of_ble_eq_true rfl) (by decide) (Nat.zero_add _).symm (tq_M_mono (am_X5_after h) ?_)
  refine tq_wi_e (fun r102 z101 h => ?_)
  refine tq_s_istore (i := 7) (L9 := [.ref 2, .long a1, .null, .long a3, .null, .long a5, .null, .int r102, .int a8, .int a9, .int a10, .null]) (by decide +kernel) (by decide) rfl ?_
  refine tq_s_iload (i := 7) (by decide +kernel) rfl ?_
  refine tq_if_ge (off := 7) (tgt := 120) (by decide +kernel) (by decide +kernel) (fun hc => ?_) (fun hc => ?_)
  · replace h := h.1 hc
    refine tq_g_iinc (i := 9) (fun v103 => [.ref 2, .long a1, .null, .long a3, .null, .long a5, .null, .int r102, .int a8, .int v103, .int a10, .null]) (by decide +kernel) rfl (1 : Int32) kc_1 (fun _ => rfl) (fun v103 ev103 => ?_)
    replace h := h v103 ev103
    refine tq_s_goto (off := -91) (tgt := 32) (by decide +kernel) (by decide +kernel) ?_
    exact tq_to (tq_lk1 (tq_lk1 (tq_lk1 (tq_lk1 (tq_lk1 (tq_lk1 (tq_lk1 (tq_lk1 (tq_lk1 (tq_lk1 (tq_ld1 (tq_lk1 tq_l0)))))))))))) (hB32 _ _ _ _ h)
  · replace h := h.2 hc
    refine tq_s_ldc2 (i := 100) (v := (-1 : Int64)) (by decide +kernel) (by decide +kernel) ?_
    exact tq_ret_l (st := []) (by decide +kernel) rfl h
def wb_X5_rank_61 (B9 : Int64 → Int32 → Int32 → tq_S → Prop) (B32 : Int64 → Int32 → Int32 → tq_S → Prop) (B61 : Int64 → Int32 → tq_S → Prop) (Q : tq_O → tq_S → Prop) (a1 : Int64) (a3 : Int64) (a5 : Int64) (a7 : Int32) (a8 : Int32) (a9 : Int32) (a10 : Int32) (a11 : Int32) (z : tq_S) : Prop := ((a10 ≤ a11 → wc_X5_rank_97 B9 B32 Q a1 a3 a5 a7 a8 a9 a10 z) ∧ (¬ a10 ≤ a11 → wm_X5_after a9 a8 a7 a11 z (tq_wi fun r102 z101 => wm_X5_onward a9 r102 z101 (tq_wl fun r104 z103 => ∀ v105 : Int64, v105 = (a5 + r104) → ∀ v106 : Int32, v106 = a11 + (1 : Int32) → B61 v105 v106 z103))))
def wc_X5_rank_61 (B9 : Int64 → Int32 → Int32 → tq_S → Prop) (B32 : Int64 → Int32 → Int32 → tq_S → Prop) (Q : tq_O → tq_S → Prop) (a1 : Int64) (a3 : Int64) (a5 : Int64) (a7 : Int32) (a8 : Int32) (a9 : Int32) (a10 : Int32) (a11 : Int32) (z : tq_S) : Prop := tq_lp (σ := Int64 × Int32 × tq_S) (fun B s => wb_X5_rank_61 B9 B32 (fun b5 b11 z => B (b5, b11, z)) Q a1 a3 s.1 a7 a8 a9 a10 s.2.1 s.2.2) (a5, a11, z)
theorem ab_X5_rank_61 {K : Nat × (Nat → Int32)} {x : Nat} {Q : tq_O → tq_S → Prop} {B9 : Int64 → Int32 → Int32 → tq_S → Prop} {B32 : Int64 → Int32 → Int32 → tq_S → Prop} {B61 : Int64 → Int32 → tq_S → Prop} {a1 : Int64} {a3 : Int64} {a5 : Int64} {a7 : Int32} {a8 : Int32} {a9 : Int32} {a10 : Int32} {a11 : Int32} {z : tq_S} (hB9 : ∀ (b5 : Int64) (b7 : Int32) (b8 : Int32) (z : tq_S), B9 b5 b7 b8 z → tq_T K 3 x mm_X5_rank 9 [.ref 2, .long a1, .null, .long a3, .null, .long b5, .null, .int b7, .int b8, .null, .null, .null] [] z Q) (hB32 : ∀ (b5 : Int64) (b7 : Int32) (b9 : Int32) (z : tq_S), B32 b5 b7 b9 z → tq_T K 3 x mm_X5_rank 32 [.ref 2, .long a1, .null, .long a3, .null, .long b5, .null, .int b7, .int a8, .int b9, .null, .null] [] z Q) (hB61 : ∀ (b5 : Int64) (b11 : Int32) (z : tq_S), B61 b5 b11 z → tq_T K 3 x mm_X5_rank 61 [.ref 2, .long a1, .null, .long a3, .null, .long b5, .null, .int a7, .int a8, .int a9, .int a10, .int b11] [] z Q) (h : wb_X5_rank_61 B9 B32 B61 Q a1 a3 a5 a7 a8 a9 a10 a11 z) : tq_T K 3 x mm_X5_rank 61 [.ref 2, .long a1, .null, .long a3, .null, .long a5, .null, .int a7, .int a8, .int a9, .int a10, .int a11] [] z Q := by
  unfold wb_X5_rank_61 at h
  refine tq_s_iload (i := 11) (by decide +kernel) rfl ?_
  refine tq_s_iload (i := 10) (by decide +kernel) rfl ?_
  refine tq_icmp_ge (off := 32) (tgt := 97) (by decide +kernel) (by decide +kernel) (fun hc => ?_) (fun hc => ?_)
  · replace h := h.1 hc
    exact tq_to (tq_lk1 (tq_lk1 (tq_lk1 (tq_lk1 (tq_lk1 (tq_lk1 (tq_lk1 (tq_lk1 (tq_lk1 (tq_lk1 (tq_lk1 (tq_ld1 tq_l0)))))))))))) (ac_X5_rank_97 hB9 hB32 h)
  · replace h := h.2 hc
    refine tq_s_lload (i := 5) (by decide +kernel) rfl ?_
    refine tq_s_aload_n (kk := 0) (by decide +kernel) rfl ?_
    refine tq_s_iload (i := 9) (by decide +kernel) rfl ?_
    refine tq_s_aload_n (kk := 0) (by decide +kernel) rfl ?_
    refine tq_s_iload (i := 9) (by decide +kernel) rfl ?_
    refine tq_s_iload (i := 8) (by decide +kernel) rfl ?_
    refine tq_s_iload (i := 7) (by decide +kernel) rfl ?_
    refine tq_s_iload (i := 11) (by decide +kernel) rfl ?_
    refine tq_callV (as := [.int a9, .int a8, .int a7, .int a11]) (st := [.int a9, .ref 2, .long a5]) (d1 := 0) (x1 := 0) (x2 := x) (by decide +kernel) ln_5_81 mf_X5_after rfl sh_2 rfl (by decide) np_X5_after rfl (Nat.le_of_ble_eq_true rfl) (by decide) (Nat.zero_add _).symm (tq_M_mono (am_X5_after h) ?_)
    refine tq_wi_e (fun r102 z101 h => ?_)
    refine tq_callV (as := [.int a9, .int r102]) (st := [.long a5]) (d1 := 0) (x1 := 0) (x2 := x) (by decide +kernel) ln_5_85 mf_X5_onward rfl sh_2 rfl (by decide) np_X5_onward rfl (Nat.le_of_ble_eq_true rfl) (by decide) (Nat.zero_add _).symm (tq_M_mono (am_X5_onward h) ?_)
    refine tq_wl_e (fun r104 z103 h => ?_)
    refine tq_s_ladd (by decide +kernel) ?_
    refine tq_g_lstore (i := 5) (fun v105 => [.ref 2, .long a1, .null, .long a3, .null, .long v105, .null, .int a7, .int a8, .int a9, .int a10, .int a11]) (by decide +kernel) (by decide) (fun _ => rfl) (fun v105 ev105 => ?_)
    replace h := h v105 ev105
    refine tq_g_iinc (i := 11) (fun v106 => [.ref 2, .long a1, .null, .long a3, .null, .long v105, .null, .int a7, .int a8, .int a9, .int a10, .int v106]) (by decide +kernel) rfl (1 : Int32) kc_1 (fun _ => rfl) (fun v106 ev106 => ?_)
    replace h := h v106 ev106
    refine tq_s_goto (off := -33) (tgt := 61) (by decide +kernel) (by decide +kernel) ?_
    exact hB61 _ _ _ h
theorem ac_X5_rank_61 {K : Nat × (Nat → Int32)} {x : Nat} {Q : tq_O → tq_S → Prop} {B9 : Int64 → Int32 → Int32 → tq_S → Prop} {B32 : Int64 → Int32 → Int32 → tq_S → Prop} {a1 : Int64} {a3 : Int64} {a5 : Int64} {a7 : Int32} {a8 : Int32} {a9 : Int32} {a10 : Int32} {a11 : Int32} {z : tq_S} (hB9 : ∀ (b5 : Int64) (b7 : Int32) (b8 : Int32) (z : tq_S), B9 b5 b7 b8 z → tq_T K 3 x mm_X5_rank 9 [.ref 2, .long a1, .null, .long a3, .null, .long b5, .null, .int b7, .int b8, .null, .null, .null] [] z Q) (hB32 : ∀ (b5 : Int64) (b7 : Int32) (b9 : Int32) (z : tq_S), B32 b5 b7 b9 z → tq_T K 3 x mm_X5_rank 32 [.ref 2, .long a1, .null, .long a3, .null, .long b5, .null, .int b7, .int a8, .int b9, .null, .null] [] z Q) (h : wc_X5_rank_61 B9 B32 Q a1 a3 a5 a7 a8 a9 a10 a11 z) : tq_T K 3 x mm_X5_rank 61 [.ref 2, .long a1, .null, .long a3, .null, .long a5, .null, .int a7, .int a8, .int a9, .int a10, .int a11] [] z Q :=
  tq_lp_T (σ := Int64 × Int32 × tq_S) (s := (a5, a11, z)) (G := fun s => tq_T K 3 x mm_X5_rank 61 [.ref 2, .long a1, .null, .long a3, .null, .long s.1, .null, .int a7, .int a8, .int a9, .int a10, .int s.2.1] [] s.2.2 Q) (fun B hB s h => ab_X5_rank_61 hB9 hB32 (fun b5 b11 z h => hB (b5, b11, z) h) h) h
def wc_X5_rank_126 (B9 : Int64 → Int32 → Int32 → tq_S → Prop) (Q : tq_O → tq_S → Prop) (a1 : Int64) (a3 : Int64) (a5 : Int64) (a7 : Int32) (a8 : Int32) (z : tq_S) : Prop := ∀ v101 : Int32, v101 = a8 + (1 : Int32) → B9 a5 a7 v101 z
theorem ac_X5_rank_126 {K : Nat × (Nat → Int32)} {x : Nat} {Q : tq_O → tq_S → Prop} {B9 : Int64 → Int32 → Int32 → tq_S → Prop} {a1 : Int64} {a3 : Int64} {a5 : Int64} {a7 : Int32} {a8 : Int32} {z : tq_S} (hB9 : ∀ (b5 : Int64) (b7 : Int32) (b8 : Int32) (z : tq_S), B9 b5 b7 b8 z → tq_T K 3 x mm_X5_rank 9 [.ref 2, .long a1, .null, .long a3, .null, .long b5, .null, .int b7, .int b8, .null, .null, .null] [] z Q) (h : wc_X5_rank_126 B9 Q a1 a3 a5 a7 a8 z) : tq_T K 3 x mm_X5_rank 126 [.ref 2, .long a1, .null, .long a3, .null, .long a5, .null, .int a7, .int a8, .null, .null, .null] [] z Q := by
  unfold wc_X5_rank_126 at h
  refine tq_g_iinc (i := 8) (fun v101 => [.ref 2, .long a1, .null, .long a3, .null, .long a5, .null, .int a7, .int v101, .null, .null, .null]) (by decide +kernel) rfl (1 : Int32) kc_1 (fun _ => rfl) (fun v101 ev101 => ?_)
  replace h := h v101 ev101
  refine tq_s_goto (off := -120) (tgt := 9) (by decide +kernel) (by decide +kernel) ?_
  exact hB9 _ _ _ _ h
def wb_X5_rank_32 (B9 : Int64 → Int32 → Int32 → tq_S → Prop) (B32 : Int64 → Int32 → Int32 → tq_S → Prop) (Q : tq_O → tq_S → Prop) (a1 : Int64) (a3 : Int64) (a5 : Int64) (a7 : Int32) (a8 : Int32) (a9 : Int32) (z : tq_S) : Prop := (((tq_fi z 64) ≤ a9 → wc_X5_rank_126 B9 Q a1 a3 a5 a7 a8 z) ∧ (¬ (tq_fi z 64) ≤ a9 → wm_X5_wayTaken a9 a8 a7 a1 a3 z (tq_wi fun r102 z101 => wc_X5_rank_61 B9 B32 Q a1 a3 a5 a7 a8 a9 r102 (0 : Int32) z101)))
def wc_X5_rank_32 (B9 : Int64 → Int32 → Int32 → tq_S → Prop) (Q : tq_O → tq_S → Prop) (a1 : Int64) (a3 : Int64) (a5 : Int64) (a7 : Int32) (a8 : Int32) (a9 : Int32) (z : tq_S) : Prop := tq_lp (σ := Int64 × Int32 × Int32 × tq_S) (fun B s => wb_X5_rank_32 B9 (fun b5 b7 b9 z => B (b5, b7, b9, z)) Q a1 a3 s.1 s.2.1 a8 s.2.2.1 s.2.2.2) (a5, a7, a9, z)
theorem ab_X5_rank_32 {K : Nat × (Nat → Int32)} {x : Nat} {Q : tq_O → tq_S → Prop} {B9 : Int64 → Int32 → Int32 → tq_S → Prop} {B32 : Int64 → Int32 → Int32 → tq_S → Prop} {a1 : Int64} {a3 : Int64} {a5 : Int64} {a7 : Int32} {a8 : Int32} {a9 : Int32} {z : tq_S} (hB9 : ∀ (b5 : Int64) (b7 : Int32) (b8 : Int32) (z : tq_S), B9 b5 b7 b8 z → tq_T K 3 x mm_X5_rank 9 [.ref 2, .long a1, .null, .long a3, .null, .long b5, .null, .int b7, .int b8, .null, .null, .null] [] z Q) (hB32 : ∀ (b5 : Int64) (b7 : Int32) (b9 : Int32) (z : tq_S), B32 b5 b7 b9 z → tq_T K 3 x mm_X5_rank 32 [.ref 2, .long a1, .null, .long a3, .null, .long b5, .null, .int b7, .int a8, .int b9, .null, .null] [] z Q) (h : wb_X5_rank_32 B9 B32 Q a1 a3 a5 a7 a8 a9 z) : tq_T K 3 x mm_X5_rank 32 [.ref 2, .long a1, .null, .long a3, .null, .long a5, .null, .int a7, .int a8, .int a9, .null, .null] [] z Q := by
  unfold wb_X5_rank_32 at h
  refine tq_s_iload (i := 9) (by decide +kernel) rfl ?_
  refine tq_s_aload_n (kk := 0) (by decide +kernel) rfl ?_
  refine fg_5_7_2 rfl (by decide +kernel) ?_
  refine fg_5_48_1 rfl (by decide +kernel) ?_
  refine tq_icmp_ge (off := 85) (tgt := 126) (by decide +kernel) (by decide +kernel) (fun hc => ?_) (fun hc => ?_)
  · replace h := h.1 hc
    exact tq_to (tq_lk1 (tq_lk1 (tq_lk1 (tq_lk1 (tq_lk1 (tq_lk1 (tq_lk1 (tq_lk1 (tq_lk1 (tq_ld1 (tq_lk1 (tq_lk1 tq_l0)))))))))))) (ac_X5_rank_126 hB9 h)
  · replace h := h.2 hc
    refine tq_s_aload_n (kk := 0) (by decide +kernel) rfl ?_
    refine tq_s_iload (i := 9) (by decide +kernel) rfl ?_
    refine tq_s_iload (i := 8) (by decide +kernel) rfl ?_
    refine tq_s_iload (i := 7) (by decide +kernel) rfl ?_
    refine tq_s_lload_n (kk := 1) (by decide +kernel) rfl ?_
    refine tq_s_lload_n (kk := 3) (by decide +kernel) rfl ?_
    refine tq_callV (as := [.int a9, .int a8, .int a7, .long a1, .long a3]) (st := []) (d1 := 1) (x1 := 0) (x2 := x) (by decide +kernel) ln_5_96 mf_X5_wayTaken rfl sh_2 rfl (by decide) np_X5_wayTaken rfl (Nat.le_of_ble_eq_true rfl) (by decide) (Nat.zero_add _).symm (tq_M_mono (am_X5_wayTaken h) ?_)
    refine tq_wi_e (fun r102 z101 h => ?_)
    refine tq_s_istore (i := 10) (L9 := [.ref 2, .long a1, .null, .long a3, .null, .long a5, .null, .int a7, .int a8, .int a9, .int r102, .null]) (by decide +kernel) (by decide) rfl ?_
    refine tq_k_ic (n := 0) (v := (0 : Int32)) (by decide +kernel) kc_0 ?_
    refine tq_s_istore (i := 11) (L9 := [.ref 2, .long a1, .null, .long a3, .null, .long a5, .null, .int a7, .int a8, .int a9, .int r102, .int (0 : Int32)]) (by decide +kernel) (by decide) rfl ?_
    exact ac_X5_rank_61 hB9 hB32 h
theorem ac_X5_rank_32 {K : Nat × (Nat → Int32)} {x : Nat} {Q : tq_O → tq_S → Prop} {B9 : Int64 → Int32 → Int32 → tq_S → Prop} {a1 : Int64} {a3 : Int64} {a5 : Int64} {a7 : Int32} {a8 : Int32} {a9 : Int32} {z : tq_S} (hB9 : ∀ (b5 : Int64) (b7 : Int32) (b8 : Int32) (z : tq_S), B9 b5 b7 b8 z → tq_T K 3 x mm_X5_rank 9 [.ref 2, .long a1, .null, .long a3, .null, .long b5, .null, .int b7, .int b8, .null, .null, .null] [] z Q) (h : wc_X5_rank_32 B9 Q a1 a3 a5 a7 a8 a9 z) : tq_T K 3 x mm_X5_rank 32 [.ref 2, .long a1, .null, .long a3, .null, .long a5, .null, .int a7, .int a8, .int a9, .null, .null] [] z Q :=
  tq_lp_T (σ := Int64 × Int32 × Int32 × tq_S) (s := (a5, a7, a9, z)) (G := fun s => tq_T K 3 x mm_X5_rank 32 [.ref 2, .long a1, .null, .long a3, .null, .long s.1, .null, .int s.2.1, .int a8, .int s.2.2.1, .null, .null] [] s.2.2.2 Q) (fun B hB s h => ab_X5_rank_32 hB9 (fun b5 b7 b9 z h => hB (b5, b7, b9, z) h) h) h
def wb_X5_rank_9 (B9 : Int64 → Int32 → Int32 → tq_S → Prop) (Q : tq_O → tq_S → Prop) (a1 : Int64) (a3 : Int64) (a5 : Int64) (a7 : Int32) (a8 : Int32) (z : tq_S) : Prop := (((tq_fi z 65) ≤ a8 → Q (.inl (some (.long a5))) z) ∧ (¬ (tq_fi z 65) ≤ a8 → wm_X5_prepareRow a8 a7 z (tq_wv fun z101 => wc_X5_rank_32 B9 Q a1 a3 a5 a7 a8 (0 : Int32) z101)))
def wc_X5_rank_9 (Q : tq_O → tq_S → Prop) (a1 : Int64) (a3 : Int64) (a5 : Int64) (a7 : Int32) (a8 : Int32) (z : tq_S) : Prop := tq_lp (σ := Int64 × Int32 × Int32 × tq_S) (fun B s => wb_X5_rank_9 (fun b5 b7 b8 z => B (b5, b7, b8, z)) Q a1 a3 s.1 s.2.1 s.2.2.1 s.2.2.2) (a5, a7, a8, z)
theorem ab_X5_rank_9 {K : Nat × (Nat → Int32)} {x : Nat} {Q : tq_O → tq_S → Prop} {B9 : Int64 → Int32 → Int32 → tq_S → Prop} {a1 : Int64} {a3 : Int64} {a5 : Int64} {a7 : Int32} {a8 : Int32} {z : tq_S} (hB9 : ∀ (b5 : Int64) (b7 : Int32) (b8 : Int32) (z : tq_S), B9 b5 b7 b8 z → tq_T K 3 x mm_X5_rank 9 [.ref 2, .long a1, .null, .long a3, .null, .long b5, .null, .int b7, .int b8, .null, .null, .null] [] z Q) (h : wb_X5_rank_9 B9 Q a1 a3 a5 a7 a8 z) : tq_T K 3 x mm_X5_rank 9 [.ref 2, .long a1, .null, .long a3, .null, .long a5, .null, .int a7, .int a8, .null, .null, .null] [] z Q := by
  unfold wb_X5_rank_9 at h
  refine tq_s_iload (i := 8) (by decide +kernel) rfl ?_
  refine tq_s_aload_n (kk := 0) (by decide +kernel) rfl ?_
  refine fg_5_7_2 rfl (by decide +kernel) ?_
  refine fg_5_51_1 rfl (by decide +kernel) ?_
  refine tq_icmp_ge (off := 114) (tgt := 132) (by decide +kernel) (by decide +kernel) (fun hc => ?_) (fun hc => ?_)
  · replace h := h.1 hc
    refine tq_s_lload (i := 5) (by decide +kernel) rfl ?_
    exact tq_ret_l (st := []) (by decide +kernel) rfl h
  · replace h := h.2 hc
    refine tq_s_aload_n (kk := 0) (by decide +kernel) rfl ?_
    refine tq_s_iload (i := 8) (by decide +kernel) rfl ?_
    refine tq_s_iload (i := 7) (by decide +kernel) rfl ?_
    refine tq_callV (as := [.int a8, .int a7]) (st := []) (d1 := 2) (x1 := 0) (x2 := x) (by decide +kernel) ln_5_67 mf_X5_prepareRow rfl sh_2 rfl (by decide) np_X5_prepareRow rfl (Nat.le_of_ble_eq_true rfl) (by decide) (Nat.zero_add _).symm (tq_M_mono (am_X5_prepareRow h) ?_)
    refine tq_wv_e (fun z101 h => ?_)
    refine tq_k_ic (n := 0) (v := (0 : Int32)) (by decide +kernel) kc_0 ?_
    refine tq_s_istore (i := 9) (L9 := [.ref 2, .long a1, .null, .long a3, .null, .long a5, .null, .int a7, .int a8, .int (0 : Int32), .null, .null]) (by decide +kernel) (by decide) rfl ?_
    exact ac_X5_rank_32 hB9 h
theorem ac_X5_rank_9 {K : Nat × (Nat → Int32)} {x : Nat} {Q : tq_O → tq_S → Prop} {a1 : Int64} {a3 : Int64} {a5 : Int64} {a7 : Int32} {a8 : Int32} {z : tq_S} (h : wc_X5_rank_9 Q a1 a3 a5 a7 a8 z) : tq_T K 3 x mm_X5_rank 9 [.ref 2, .long a1, .null, .long a3, .null, .long a5, .null, .int a7, .int a8, .null, .null, .null] [] z Q :=
  tq_lp_T (σ := Int64 × Int32 × Int32 × tq_S) (s := (a5, a7, a8, z)) (G := fun s => tq_T K 3 x mm_X5_rank 9 [.ref 2, .long a1, .null, .long a3, .null, .long s.1, .null, .int s.2.1, .int s.2.2.1, .null, .null, .null] [] s.2.2.2 Q) (fun B hB s h => ab_X5_rank_9 (fun b5 b7 b8 z h => hB (b5, b7, b8, z) h) h) h
def wm_X5_rank (a1 : Int64) (a3 : Int64) (z : tq_S) (Q : tq_O → tq_S → Prop) : Prop := wc_X5_rank_9 Q a1 a3 (0 : Int64) (0 : Int32) (0 : Int32) z
theorem am_X5_rank {K : Nat × (Nat → Int32)} {x : Nat} {z : tq_S} {Q : tq_O → tq_S → Prop} {a1 : Int64} {a3 : Int64} (h : wm_X5_rank a1 a3 z Q) : tq_M K 3 x mm_X5_rank [.ref 2, .long a1, .long a3] z Q := by
  unfold wm_X5_rank at h
  refine tq_enter (L := [.ref 2, .long a1, .null, .long a3, .null, .null, .null, .null, .null, .null, .null, .null]) mf_X5_rank.1 rfl rfl (Nat.le_of_ble_eq_true rfl) ?_
  refine tq_k_lc (n := 0) (v := (0 : Int64)) (by decide +kernel) (by decide +kernel) ?_
  refine tq_s_lstore (i := 5) (L9 := [.ref 2, .long a1, .null, .long a3, .null, .long (0 : Int64), .null, .null, .null, .null, .null, .null]) (by decide +kernel) (by decide) rfl ?_
  refine tq_k_ic (n := 0) (v := (0 : Int32)) (by decide +kernel) kc_0 ?_
  refine tq_s_istore (i := 7) (L9 := [.ref 2, .long a1, .null, .long a3, .null, .long (0 : Int64), .null, .int (0 : Int32), .null, .null, .null, .null]) (by decide +kernel) (by decide) rfl ?_
  refine tq_k_ic (n := 0) (v := (0 : Int32)) (by decide +kernel) kc_0 ?_
  refine tq_s_istore (i := 8) (L9 := [.ref 2, .long a1, .null, .long a3, .null, .long (0 : Int64), .null, .int (0 : Int32), .int (0 : Int32), .null, .null, .null]) (by decide +kernel) (by decide) rfl ?_
  exact ac_X5_rank_9 h
def wc_X11_next_76 (Q : tq_O → tq_S → Prop) (a5 : Int32) (s0 : Int64) (z : tq_S) : Prop := wm_X11_show s0 z (tq_wv fun z101 => tq_nz a5 ∧ Q (.inl (some (.int a5))) z101)
theorem ac_X11_next_76 {K : Nat × (Nat → Int32)} {Q : tq_O → tq_S → Prop} {a5 : Int32} {s0 : Int64} {z : tq_S} (h : wc_X11_next_76 Q a5 s0 z) : tq_T K 5 1 mm_X11_next 76 [.null, .null, .null, .null, .null, .int a5] [.long s0, .ref 0] z Q := by
  unfold wc_X11_next_76 at h
  refine tq_callV (as := [.long s0]) (st := []) (d1 := 4) (x1 := 0) (x2 := 1) (by decide +kernel) ln_11_234 mf_X11_show rfl sh_0 rfl (by decide) np_X11_show rfl (Nat.le_of_ble_eq_true rfl) (by decide) (Nat.zero_add _).symm (tq_M_mono (am_X11_show h) ?_)
  refine tq_wv_e (fun z101 h => ?_)
  refine tq_s_iload (i := 5) (by decide +kernel) rfl ?_
  exact tq_ret_z (st := []) (ty := .boolean) (by decide +kernel) (tq_nz_f h.1).1 rfl h.2
def wc_X11_next_63 (Q : tq_O → tq_S → Prop) (a3 : Int64) (s0 : Int32) (z : tq_S) : Prop := ((s0 = 0 → wc_X11_next_76 Q s0 (0 : Int64) z) ∧ (¬ s0 = 0 → wc_X11_next_76 Q s0 a3 z))
theorem ac_X11_next_63 {K : Nat × (Nat → Int32)} {Q : tq_O → tq_S → Prop} {a3 : Int64} {s0 : Int32} {z : tq_S} (h : wc_X11_next_63 Q a3 s0 z) : tq_T K 5 1 mm_X11_next 63 [.ref 0, .null, .null, .long a3, .null, .null] [.int s0] z Q := by
  unfold wc_X11_next_63 at h
  refine tq_s_istore (i := 5) (L9 := [.ref 0, .null, .null, .long a3, .null, .int s0]) (by decide +kernel) (by decide) rfl ?_
  refine tq_s_aload_n (kk := 0) (by decide +kernel) rfl ?_
  refine tq_s_iload (i := 5) (by decide +kernel) rfl ?_
  refine tq_if_eq (off := 7) (tgt := 75) (by decide +kernel) (by decide +kernel) (fun hc => ?_) (fun hc => ?_)
  · replace h := h.1 hc
    refine tq_k_lc (n := 0) (v := (0 : Int64)) (by decide +kernel) (by decide +kernel) ?_
    exact tq_to (tq_ld1 (tq_lk1 (tq_lk1 (tq_ld1 (tq_lk1 (tq_lk1 tq_l0)))))) (ac_X11_next_76 h)
  · replace h := h.2 hc
    refine tq_s_lload_n (kk := 3) (by decide +kernel) rfl ?_
    refine tq_s_goto (off := 4) (tgt := 76) (by decide +kernel) (by decide +kernel) ?_
    exact tq_to (tq_ld1 (tq_lk1 (tq_lk1 (tq_ld1 (tq_lk1 (tq_lk1 tq_l0)))))) (ac_X11_next_76 h)
def wm_X11_next  (z : tq_S) (Q : tq_O → tq_S → Prop) : Prop := ((¬ (tq_fi z 516) = 0 → wm_X5_total z (tq_wl fun r2 z1 => wm_X5_rank (tq_fl z1 517) (tq_fl z1 518) z1 (tq_wl fun r4 z3 => ∀ v5 : Int64, v5 = (r4 + (1 : Int64)) → ((r2 ≤ v5 → wc_X11_next_63 Q v5 (0 : Int32) z3) ∧ (¬ r2 ≤ v5 → wc_X11_next_63 Q v5 (1 : Int32) z3))))) ∧ ((tq_fi z 516) = 0 → Q (.inr 5) z))
theorem am_X11_next {K : Nat × (Nat → Int32)} {z : tq_S} {Q : tq_O → tq_S → Prop}  (h : wm_X11_next z Q) : tq_M K 5 1 mm_X11_next [.ref 0] z Q := by
  unfold wm_X11_next at h
  refine tq_enter (L := [.ref 0, .null, .null, .null, .null, .null]) mf_X11_next.1 rfl rfl (Nat.le_of_ble_eq_true rfl) ?_
  refine tq_s_aload_n (kk := 0) (by decide +kernel) rfl ?_
  refine fg_11_28_0 rfl (by decide +kernel) ?_
  refine fg_11_238_8 rfl (by decide +kernel) ?_
  refine tq_if_ne (off := 13) (tgt := 20) (by decide +kernel) (by decide +kernel) (fun hc => ?_) (fun hc => ?_)
  · replace h := h.1 hc
    refine tq_s_aload_n (kk := 0) (by decide +kernel) rfl ?_
    refine fg_11_21_0 rfl (by decide +kernel) ?_
    refine tq_callVN (as := []) (st := []) (d1 := 3) (x1 := 0) (x2 := 1) (by decide +kernel) ln_11_192 mf_X5_total rfl sh_2 rfl (by decide) np_X5_total rfl (Nat.le_of_ble_eq_true rfl) (by decide) (Nat.zero_add _).symm (tq_M_mono (am_X5_total h) ?_)
    refine tq_wl_e (fun r2 z1 h => ?_)
    refine tq_s_lstore_n (kk := 1) (L9 := [.ref 0, .long r2, .null, .null, .null, .null]) (by decide +kernel) (by decide) rfl ?_
    refine tq_s_aload_n (kk := 0) (by decide +kernel) rfl ?_
    refine fg_11_21_0 rfl (by decide +kernel) ?_
    refine tq_s_aload_n (kk := 0) (by decide +kernel) rfl ?_
    refine fg_11_28_0 rfl (by decide +kernel) ?_
    refine fg_11_243_8 rfl (by decide +kernel) ?_
    refine tq_s_aload_n (kk := 0) (by decide +kernel) rfl ?_
    refine fg_11_28_0 rfl (by decide +kernel) ?_
    refine fg_11_246_8 rfl (by decide +kernel) ?_
    refine tq_callVN (as := [.long (tq_fl z1 517), .long (tq_fl z1 518)]) (st := []) (d1 := 3) (x1 := 0) (x2 := 1) (by decide +kernel) ln_11_249 mf_X5_rank rfl sh_2 rfl (by decide) np_X5_rank rfl (Nat.le_of_ble_eq_true rfl) (by decide) (Nat.zero_add _).symm (tq_M_mono (am_X5_rank h) ?_)
    refine tq_wl_e (fun r4 z3 h => ?_)
    refine tq_k_lc (n := 1) (v := (1 : Int64)) (by decide +kernel) (by decide +kernel) ?_
    refine tq_s_ladd (by decide +kernel) ?_
    refine tq_g_lstore_n (kk := 3) (fun v5 => [.ref 0, .long r2, .null, .long v5, .null, .null]) (by decide +kernel) (by decide) (fun _ => rfl) (fun v5 ev5 => ?_)
    replace h := h v5 ev5
    refine tq_s_lload_n (kk := 3) (by decide +kernel) rfl ?_
    refine tq_s_lload_n (kk := 1) (by decide +kernel) rfl ?_
    refine tq_lcmp_ge (off := 7) (tgt := 62) (by decide +kernel) (by decide +kernel) (by decide +kernel) (fun hc => ?_) (fun hc => ?_)
    · replace h := h.1 hc
      refine tq_k_ic (n := 0) (v := (0 : Int32)) (by decide +kernel) kc_0 ?_
      exact tq_to (tq_lk1 (tq_ld1 (tq_lk1 (tq_lk1 (tq_lk1 (tq_lk1 tq_l0)))))) (ac_X11_next_63 h)
    · replace h := h.2 hc
      refine tq_k_ic (n := 1) (v := (1 : Int32)) (by decide +kernel) kc_1 ?_
      refine tq_s_goto (off := 4) (tgt := 63) (by decide +kernel) (by decide +kernel) ?_
      exact tq_to (tq_lk1 (tq_ld1 (tq_lk1 (tq_lk1 (tq_lk1 (tq_lk1 tq_l0)))))) (ac_X11_next_63 h)
  · replace h := h.2 hc
    exact tq_throwN th_11_223_241 rfl (by decide +kernel) (by decide +kernel) (by decide +kernel) (by decide +kernel) (by decide +kernel) (Nat.le_of_ble_eq_true rfl) rfl (Nat.le_refl 1) h
