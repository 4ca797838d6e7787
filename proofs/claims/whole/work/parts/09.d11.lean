def wm_X11_heaps (a1 : Int32) (a2 : Int32) (a3 : Int32) (z : tq_S) (Q : tq_O → tq_S → Prop) : Prop := wm_X11_areSides a1 a2 a3 z (tq_wi fun r2 z1 => ((¬ r2 = 0 → wm_X0_putHeaps a1 a2 a3 z1 (tq_wv fun z3 => wm_X11_sayAnswer z3 (tq_wi fun r5 z4 => Q (.inl (some (.int r5))) z4))) ∧ (r2 = 0 → Q (.inr 1) z1)))
theorem am_X11_heaps {K : Nat × (Nat → Int32)} {z : tq_S} {Q : tq_O → tq_S → Prop} {a1 : Int32} {a2 : Int32} {a3 : Int32} (h : wm_X11_heaps a1 a2 a3 z Q) : tq_M K 3 1 mm_X11_heaps [.ref 0, .int a1, .int a2, .int a3] z Q := by
  unfold wm_X11_heaps at h
  refine tq_enter (L := [.ref 0, .int a1, .int a2, .int a3]) mf_X11_heaps.1 rfl rfl (Nat.le_of_ble_eq_true rfl) ?_
  refine tq_s_iload_n (kk := 1) (by decide +kernel) rfl ?_
  refine tq_s_iload_n (kk := 2) (by decide +kernel) rfl ?_
  refine tq_s_iload_n (kk := 3) (by decide +kernel) rfl ?_
  refine tq_callS (as := [.int a1, .int a2, .int a3]) (st := []) (d1 := 1) (x1 := 0) (x2 := 1) (by decide +kernel) ln_11_407 mf_X11_areSides rfl (by decide) np_X11_areSides rfl (Nat.le_of_ble_eq_true rfl) (by decide) (Nat.zero_add _).symm (tq_M_mono (am_X11_areSides h) ?_)
  refine tq_wi_e (fun r2 z1 h => ?_)
  refine tq_if_ne (off := 14) (tgt := 20) (by decide +kernel) (by decide +kernel) (fun hc => ?_) (fun hc => ?_)
  · replace h := h.1 hc
    refine tq_s_aload_n (kk := 0) (by decide +kernel) rfl ?_
    refine fg_11_86_0 rfl (by decide +kernel) ?_
    refine tq_s_iload_n (kk := 1) (by decide +kernel) rfl ?_
    refine tq_s_iload_n (kk := 2) (by decide +kernel) rfl ?_
    refine tq_s_iload_n (kk := 3) (by decide +kernel) rfl ?_
    refine tq_callVN (as := [.int a1, .int a2, .int a3]) (st := []) (d1 := 2) (x1 := 0) (x2 := 1) (by decide +kernel) ln_11_416 mf_X0_putHeaps rfl sh_46 rfl (by decide) np_X0_putHeaps rfl (Nat.le_of_ble_eq_true rfl) (by decide) (Nat.zero_add _).symm (tq_M_mono (am_X0_putHeaps h) ?_)
    refine tq_wv_e (fun z3 h => ?_)
    refine tq_s_aload_n (kk := 0) (by decide +kernel) rfl ?_
    refine tq_callV (as := []) (st := []) (d1 := 2) (x1 := 0) (x2 := 1) (by decide +kernel) ln_11_394 mf_X11_sayAnswer rfl sh_0 rfl (by decide) np_X11_sayAnswer rfl (Nat.le_of_ble_eq_true rfl) (by decide) (Nat.zero_add _).symm (tq_M_mono (am_X11_sayAnswer h) ?_)
    refine tq_wi_e (fun r5 z4 h => ?_)
    exact tq_ret_i (st := []) (by decide +kernel) rfl h
  · replace h := h.2 hc
    exact tq_throwSW th_11_105_410 rfl (by decide +kernel) (by decide +kernel) (by decide +kernel) (by decide +kernel) (by decide +kernel) (Nat.le_of_ble_eq_true rfl) rfl (Nat.le_refl 1) h
def wb_J7_fill_d0a16_r8_6 (B6 : Int32 → tq_S → Prop) (Q : tq_O → tq_S → Prop) (a1 : Int64) (a3 : Int32) (a4 : Int32) (z : tq_S) : Prop := ((a4 ≤ a3 → Q (.inl none) z) ∧ (¬ a4 ≤ a3 → vp_in a3 256 ∧ ∀ z101 : tq_S, z101 = tq_sal z 43 (vp_updL (tq_al z 43) (Int32.toNatClampNeg a3) a1) → ∀ v102 : Int32, v102 = a3 + (1 : Int32) → B6 v102 z101))
def wc_J7_fill_d0a16_r8_6 (Q : tq_O → tq_S → Prop) (a1 : Int64) (a3 : Int32) (a4 : Int32) (z : tq_S) : Prop := tq_lp (σ := Int32 × tq_S) (fun B s => wb_J7_fill_d0a16_r8_6 (fun b3 z => B (b3, z)) Q a1 s.1 a4 s.2) (a3, z)
theorem ab_J7_fill_d0a16_r8_6 {K : Nat × (Nat → Int32)} {x : Nat} {Q : tq_O → tq_S → Prop} {B6 : Int32 → tq_S → Prop} {a1 : Int64} {a3 : Int32} {a4 : Int32} {z : tq_S} (hB6 : ∀ (b3 : Int32) (z : tq_S), B6 b3 z → tq_T K 0 x mm_J7_fill_d0a16 6 [.ref 43, .long a1, .null, .int b3, .int a4] [] z Q) (h : wb_J7_fill_d0a16_r8_6 B6 Q a1 a3 a4 z) : tq_T K 0 x mm_J7_fill_d0a16 6 [.ref 43, .long a1, .null, .int a3, .int a4] [] z Q := by
  unfold wb_J7_fill_d0a16_r8_6 at h
  refine tq_s_iload_n (kk := 3) (by decide +kernel) rfl ?_
  refine tq_s_iload (i := 4) (by decide +kernel) rfl ?_
  refine tq_icmp_ge (off := 13) (tgt := 22) (by decide +kernel) (by decide +kernel) (fun hc => ?_) (fun hc => ?_)
  · replace h := h.1 hc
    exact tq_ret_v (st := []) (by decide +kernel) rfl h
  · replace h := h.2 hc
    refine tq_s_aload_n (kk := 0) (by decide +kernel) rfl ?_
    refine tq_s_iload_n (kk := 3) (by decide +kernel) rfl ?_
    refine tq_s_lload_n (kk := 1) (by decide +kernel) rfl ?_
    refine tq_g_last (by decide +kernel) sh_43 h.1 (fun z101 ez101 => ?_)
    replace h := h.2 z101 ez101
    refine tq_g_iinc (i := 3) (fun v102 => [.ref 43, .long a1, .null, .int v102, .int a4]) (by decide +kernel) rfl (1 : Int32) kc_1 (fun _ => rfl) (fun v102 ev102 => ?_)
    replace h := h v102 ev102
    refine tq_s_goto (off := -13) (tgt := 6) (by decide +kernel) (by decide +kernel) ?_
    exact hB6 _ _ h
theorem ac_J7_fill_d0a16_r8_6 {K : Nat × (Nat → Int32)} {x : Nat} {Q : tq_O → tq_S → Prop} {a1 : Int64} {a3 : Int32} {a4 : Int32} {z : tq_S} (h : wc_J7_fill_d0a16_r8_6 Q a1 a3 a4 z) : tq_T K 0 x mm_J7_fill_d0a16 6 [.ref 43, .long a1, .null, .int a3, .int a4] [] z Q :=
  tq_lp_T (σ := Int32 × tq_S) (s := (a3, z)) (G := fun s => tq_T K 0 x mm_J7_fill_d0a16 6 [.ref 43, .long a1, .null, .int s.1, .int a4] [] s.2 Q) (fun B hB s h => ab_J7_fill_d0a16_r8_6 (fun b3 z h => hB (b3, z) h) h) h
def wm_J7_fill_d0a16_r8 (a1 : Int64) (z : tq_S) (Q : tq_O → tq_S → Prop) : Prop := ∀ v1 : Int32, v1 = (Int32.ofNat 256) → wc_J7_fill_d0a16_r8_6 Q a1 (0 : Int32) v1 z
theorem am_J7_fill_d0a16_r8 {K : Nat × (Nat → Int32)} {x : Nat} {z : tq_S} {Q : tq_O → tq_S → Prop} {a1 : Int64} (h : wm_J7_fill_d0a16_r8 a1 z Q) : tq_M K 0 x mm_J7_fill_d0a16 [.ref 43, .long a1] z Q := by
  unfold wm_J7_fill_d0a16_r8 at h
  refine tq_enter (L := [.ref 43, .long a1, .null, .null, .null]) mf_J7_fill_d0a16.1 rfl rfl (Nat.le_of_ble_eq_true rfl) ?_
  refine tq_k_ic (n := 0) (v := (0 : Int32)) (by decide +kernel) kc_0 ?_
  refine tq_s_istore_n (kk := 3) (L9 := [.ref 43, .long a1, .null, .int (0 : Int32), .null]) (by decide +kernel) (by decide) rfl ?_
  refine tq_s_aload_n (kk := 0) (by decide +kernel) rfl ?_
  refine tq_s_alen (by decide +kernel) sh_43 (by decide) ?_
  refine tq_g_istore (i := 4) (fun v1 => [.ref 43, .long a1, .null, .int (0 : Int32), .int v1]) (by decide +kernel) (by decide) (fun _ => rfl) (fun v1 ev1 => ?_)
  replace h := h v1 ev1
  exact ac_J7_fill_d0a16_r8_6 h
def wc_X10_fillWays_112 (B17 : Int32 → tq_S → Prop) (B50 : Int32 → tq_S → Prop) (B64 : Int32 → tq_S → Prop) (Q : tq_O → tq_S → Prop) (a1 : Int32) (a2 : Int32) (a3 : Int32) (a4 : Int32) (a5 : Int32) (z : tq_S) : Prop := ∀ v101 : Int32, v101 = a5 + (1 : Int32) → B64 v101 z
theorem ac_X10_fillWays_112 {K : Nat × (Nat → Int32)} {x : Nat} {Q : tq_O → tq_S → Prop} {B17 : Int32 → tq_S → Prop} {B50 : Int32 → tq_S → Prop} {B64 : Int32 → tq_S → Prop} {a1 : Int32} {a2 : Int32} {a3 : Int32} {a4 : Int32} {a5 : Int32} {z : tq_S} (hB17 : ∀ (b1 : Int32) (z : tq_S), B17 b1 z → tq_T K 1 x mm_X10_fillWays 17 [.ref 42, .int b1, .null, .null, .null, .null] [] z Q) (hB50 : ∀ (b3 : Int32) (z : tq_S), B50 b3 z → tq_T K 1 x mm_X10_fillWays 50 [.ref 42, .int a1, .int a2, .int b3, .null, .null] [] z Q) (hB64 : ∀ (b5 : Int32) (z : tq_S), B64 b5 z → tq_T K 1 x mm_X10_fillWays 64 [.ref 42, .int a1, .int a2, .int a3, .int a4, .int b5] [] z Q) (h : wc_X10_fillWays_112 B17 B50 B64 Q a1 a2 a3 a4 a5 z) : tq_T K 1 x mm_X10_fillWays 112 [.ref 42, .int a1, .int a2, .int a3, .int a4, .int a5] [] z Q := by
  unfold wc_X10_fillWays_112 at h
  refine tq_g_iinc (i := 5) (fun v101 => [.ref 42, .int a1, .int a2, .int a3, .int a4, .int v101]) (by decide +kernel) rfl (1 : Int32) kc_1 (fun _ => rfl) (fun v101 ev101 => ?_)
  replace h := h v101 ev101
  refine tq_s_goto (off := -51) (tgt := 64) (by decide +kernel) (by decide +kernel) ?_
  exact hB64 _ _ h
def wc_X10_fillWays_118 (B17 : Int32 → tq_S → Prop) (B50 : Int32 → tq_S → Prop) (Q : tq_O → tq_S → Prop) (a1 : Int32) (a2 : Int32) (a3 : Int32) (z : tq_S) : Prop := ∀ v101 : Int32, v101 = a3 + (-1 : Int32) → B50 v101 z
theorem ac_X10_fillWays_118 {K : Nat × (Nat → Int32)} {x : Nat} {Q : tq_O → tq_S → Prop} {B17 : Int32 → tq_S → Prop} {B50 : Int32 → tq_S → Prop} {a1 : Int32} {a2 : Int32} {a3 : Int32} {z : tq_S} (hB17 : ∀ (b1 : Int32) (z : tq_S), B17 b1 z → tq_T K 1 x mm_X10_fillWays 17 [.ref 42, .int b1, .null, .null, .null, .null] [] z Q) (hB50 : ∀ (b3 : Int32) (z : tq_S), B50 b3 z → tq_T K 1 x mm_X10_fillWays 50 [.ref 42, .int a1, .int a2, .int b3, .null, .null] [] z Q) (h : wc_X10_fillWays_118 B17 B50 Q a1 a2 a3 z) : tq_T K 1 x mm_X10_fillWays 118 [.ref 42, .int a1, .int a2, .int a3, .null, .null] [] z Q := by
  unfold wc_X10_fillWays_118 at h
  refine tq_g_iinc (i := 3) (fun v101 => [.ref 42, .int a1, .int a2, .int v101, .null, .null]) (by decide +kernel) rfl (-1 : Int32) kc_m1 (fun _ => rfl) (fun v101 ev101 => ?_)
  replace h := h v101 ev101
  refine tq_s_goto (off := -71) (tgt := 50) (by decide +kernel) (by decide +kernel) ?_
  exact hB50 _ _ h
def wb_X10_fillWays_64 (B17 : Int32 → tq_S → Prop) (B50 : Int32 → tq_S → Prop) (B64 : Int32 → tq_S → Prop) (Q : tq_O → tq_S → Prop) (a1 : Int32) (a2 : Int32) (a3 : Int32) (a4 : Int32) (a5 : Int32) (z : tq_S) : Prop := (((8 : Int32) ≤ a5 → wc_X10_fillWays_118 B17 B50 Q a1 a2 a3 z) ∧ (¬ (8 : Int32) ≤ a5 → vp_in a3 256 ∧ (((tq_al z 43 (Int32.toNatClampNeg a3)) = (0 : Int64) → wc_X10_fillWays_118 B17 B50 Q a1 a2 a3 z) ∧ (¬ (tq_al z 43 (Int32.toNatClampNeg a3)) = (0 : Int64) → (((((Int32.toUInt32 a4) >>> ((Int32.toUInt32 a5) &&& Int32.toUInt32 31)).toInt32 &&& (1 : Int32)) = 0 → wc_X10_fillWays_112 B17 B50 B64 Q a1 a2 a3 a4 a5 z) ∧ (¬ (((Int32.toUInt32 a4) >>> ((Int32.toUInt32 a5) &&& Int32.toUInt32 31)).toInt32 &&& (1 : Int32)) = 0 → vp_in (a3 ||| ((1 : Int32) <<< (a5 &&& 31))) 256 ∧ vp_in a3 256 ∧ vp_in (a3 ||| ((1 : Int32) <<< (a5 &&& 31))) 256 ∧ ∀ z101 : tq_S, z101 = tq_sal z 43 (vp_updL (tq_al z 43) (Int32.toNatClampNeg (a3 ||| ((1 : Int32) <<< (a5 &&& 31)))) ((tq_al z 43 (Int32.toNatClampNeg (a3 ||| ((1 : Int32) <<< (a5 &&& 31))))) + (tq_al z 43 (Int32.toNatClampNeg a3)))) → wc_X10_fillWays_112 B17 B50 B64 Q a1 a2 a3 a4 a5 z101))))))
def wc_X10_fillWays_64 (B17 : Int32 → tq_S → Prop) (B50 : Int32 → tq_S → Prop) (Q : tq_O → tq_S → Prop) (a1 : Int32) (a2 : Int32) (a3 : Int32) (a4 : Int32) (a5 : Int32) (z : tq_S) : Prop := tq_lp (σ := Int32 × tq_S) (fun B s => wb_X10_fillWays_64 B17 B50 (fun b5 z => B (b5, z)) Q a1 a2 a3 a4 s.1 s.2) (a5, z)
theorem ab_X10_fillWays_64 {K : Nat × (Nat → Int32)} {x : Nat} {Q : tq_O → tq_S → Prop} {B17 : Int32 → tq_S → Prop} {B50 : Int32 → tq_S → Prop} {B64 : Int32 → tq_S → Prop} {a1 : Int32} {a2 : Int32} {a3 : Int32} {a4 : Int32} {a5 : Int32} {z : tq_S} (hB17 : ∀ (b1 : Int32) (z : tq_S), B17 b1 z → tq_T K 1 x mm_X10_fillWays 17 [.ref 42, .int b1, .null, .null, .null, .null] [] z Q) (hB50 : ∀ (b3 : Int32) (z : tq_S), B50 b3 z → tq_T K 1 x mm_X10_fillWays 50 [.ref 42, .int a1, .int a2, .int b3, .null, .null] [] z Q) (hB64 : ∀ (b5 : Int32) (z : tq_S), B64 b5 z → tq_T K 1 x mm_X10_fillWays 64 [.ref 42, .int a1, .int a2, .int a3, .int a4, .int b5] [] z Q) (h : wb_X10_fillWays_64 B17 B50 B64 Q a1 a2 a3 a4 a5 z) : tq_T K 1 x mm_X10_fillWays 64 [.ref 42, .int a1, .int a2, .int a3, .int a4, .int a5] [] z Q := by
  unfold wb_X10_fillWays_64 at h
  refine tq_s_iload (i := 5) (by decide +kernel) rfl ?_
  refine tq_k_bi (n := 8) (v := (8 : Int32)) (by decide +kernel) kb_8 ?_
  refine tq_icmp_ge (off := 50) (tgt := 118) (by decide +kernel) (by decide +kernel) (fun hc => ?_) (fun hc => ?_)
  · replace h := h.1 hc
    exact tq_to (tq_lk1 (tq_lk1 (tq_lk1 (tq_lk1 (tq_ld1 (tq_ld1 tq_l0)))))) (ac_X10_fillWays_118 hB17 hB50 h)
  · replace h := h.2 hc
    refine tq_s_aload_n (kk := 0) (by decide +kernel) rfl ?_
    refine fg_10_13_42 rfl (by decide +kernel) ?_
    refine tq_s_iload_n (kk := 3) (by decide +kernel) rfl ?_
    refine tq_s_lald (by decide +kernel) sh_43 h.1 ?_
    replace h := h.2
    refine tq_k_lc (n := 0) (v := (0 : Int64)) (by decide +kernel) (by decide +kernel) ?_
    refine tq_lcmp_eq (off := 39) (tgt := 118) (by decide +kernel) (by decide +kernel) (by decide +kernel) (fun hc => ?_) (fun hc => ?_)
    · replace h := h.1 hc
      exact tq_to (tq_lk1 (tq_lk1 (tq_lk1 (tq_lk1 (tq_ld1 (tq_ld1 tq_l0)))))) (ac_X10_fillWays_118 hB17 hB50 h)
    · replace h := h.2 hc
      refine tq_s_iload (i := 4) (by decide +kernel) rfl ?_
      refine tq_s_iload (i := 5) (by decide +kernel) rfl ?_
      refine tq_s_iushr (by decide +kernel) ?_
      refine tq_k_ic (n := 1) (v := (1 : Int32)) (by decide +kernel) kc_1 ?_
      refine tq_s_iand (by decide +kernel) ?_
      refine tq_if_eq (off := 23) (tgt := 112) (by decide +kernel) (by decide +kernel) (fun hc => ?_) (fun hc => ?_)
      · replace h := h.1 hc
        exact ac_X10_fillWays_112 hB17 hB50 hB64 h
      · replace h := h.2 hc
        refine tq_s_aload_n (kk := 0) (by decide +kernel) rfl ?_
        refine fg_10_13_42 rfl (by decide +kernel) ?_
        refine tq_s_iload_n (kk := 3) (by decide +kernel) rfl ?_
        refine tq_k_ic (n := 1) (v := (1 : Int32)) (by decide +kernel) kc_1 ?_
        refine tq_s_iload (i := 5) (by decide +kernel) rfl ?_
        refine tq_s_ishl (by decide +kernel) ?_
        refine tq_s_ior (by decide +kernel) ?_
        refine tq_s_dup2_11 (by decide +kernel) rfl rfl ?_
        refine tq_s_lald (by decide +kernel) sh_43 h.1 ?_
        replace h := h.2
        refine tq_s_aload_n (kk := 0) (by decide +kernel) rfl ?_
        refine fg_10_13_42 rfl (by decide +kernel) ?_
        refine tq_s_iload_n (kk := 3) (by decide +kernel) rfl ?_
        refine tq_s_lald (by decide +kernel) sh_43 h.1 ?_
        replace h := h.2
        refine tq_s_ladd (by decide +kernel) ?_
        refine tq_g_last (by decide +kernel) sh_43 h.1 (fun z101 ez101 => ?_)
        replace h := h.2 z101 ez101
        exact ac_X10_fillWays_112 hB17 hB50 hB64 h
theorem ac_X10_fillWays_64 {K : Nat × (Nat → Int32)} {x : Nat} {Q : tq_O → tq_S → Prop} {B17 : Int32 → tq_S → Prop} {B50 : Int32 → tq_S → Prop} {a1 : Int32} {a2 : Int32} {a3 : Int32} {a4 : Int32} {a5 : Int32} {z : tq_S} (hB17 : ∀ (b1 : Int32) (z : tq_S), B17 b1 z → tq_T K 1 x mm_X10_fillWays 17 [.ref 42, .int b1, .null, .null, .null, .null] [] z Q) (hB50 : ∀ (b3 : Int32) (z : tq_S), B50 b3 z → tq_T K 1 x mm_X10_fillWays 50 [.ref 42, .int a1, .int a2, .int b3, .null, .null] [] z Q) (h : wc_X10_fillWays_64 B17 B50 Q a1 a2 a3 a4 a5 z) : tq_T K 1 x mm_X10_fillWays 64 [.ref 42, .int a1, .int a2, .int a3, .int a4, .int a5] [] z Q :=
  tq_lp_T (σ := Int32 × tq_S) (s := (a5, z)) (G := fun s => tq_T K 1 x mm_X10_fillWays 64 [.ref 42, .int a1, .int a2, .int a3, .int a4, .int s.1] [] s.2 Q) (fun B hB s h => ab_X10_fillWays_64 hB17 hB50 (fun b5 z h => hB (b5, z) h) h) h
def wc_X10_fillWays_124 (B17 : Int32 → tq_S → Prop) (Q : tq_O → tq_S → Prop) (a1 : Int32) (z : tq_S) : Prop := ∀ v101 : Int32, v101 = a1 + (1 : Int32) → B17 v101 z
theorem ac_X10_fillWays_124 {K : Nat × (Nat → Int32)} {x : Nat} {Q : tq_O → tq_S → Prop} {B17 : Int32 → tq_S → Prop} {a1 : Int32} {z : tq_S} (hB17 : ∀ (b1 : Int32) (z : tq_S), B17 b1 z → tq_T K 1 x mm_X10_fillWays 17 [.ref 42, .int b1, .null, .null, .null, .null] [] z Q) (h : wc_X10_fillWays_124 B17 Q a1 z) : tq_T K 1 x mm_X10_fillWays 124 [.ref 42, .int a1, .null, .null, .null, .null] [] z Q := by
  unfold wc_X10_fillWays_124 at h
  refine tq_g_iinc (i := 1) (fun v101 => [.ref 42, .int v101, .null, .null, .null, .null]) (by decide +kernel) rfl (1 : Int32) kc_1 (fun _ => rfl) (fun v101 ev101 => ?_)
  replace h := h v101 ev101
  refine tq_s_goto (off := -110) (tgt := 17) (by decide +kernel) (by decide +kernel) ?_
  exact hB17 _ _ h
def wb_X10_fillWays_50 (B17 : Int32 → tq_S → Prop) (B50 : Int32 → tq_S → Prop) (Q : tq_O → tq_S → Prop) (a1 : Int32) (a2 : Int32) (a3 : Int32) (z : tq_S) : Prop := ((a3 < 0 → wc_X10_fillWays_124 B17 Q a1 z) ∧ (¬ a3 < 0 → ∀ v101 : Int32, v101 = (a2 &&& (a3 ^^^ (-1 : Int32))) → wc_X10_fillWays_64 B17 B50 Q a1 a2 a3 v101 (0 : Int32) z))
def wc_X10_fillWays_50 (B17 : Int32 → tq_S → Prop) (Q : tq_O → tq_S → Prop) (a1 : Int32) (a2 : Int32) (a3 : Int32) (z : tq_S) : Prop := tq_lp (σ := Int32 × tq_S) (fun B s => wb_X10_fillWays_50 B17 (fun b3 z => B (b3, z)) Q a1 a2 s.1 s.2) (a3, z)
theorem ab_X10_fillWays_50 {K : Nat × (Nat → Int32)} {x : Nat} {Q : tq_O → tq_S → Prop} {B17 : Int32 → tq_S → Prop} {B50 : Int32 → tq_S → Prop} {a1 : Int32} {a2 : Int32} {a3 : Int32} {z : tq_S} (hB17 : ∀ (b1 : Int32) (z : tq_S), B17 b1 z → tq_T K 1 x mm_X10_fillWays 17 [.ref 42, .int b1, .null, .null, .null, .null] [] z Q) (hB50 : ∀ (b3 : Int32) (z : tq_S), B50 b3 z → tq_T K 1 x mm_X10_fillWays 50 [.ref 42, .int a1, .int a2, .int b3, .null, .null] [] z Q) (h : wb_X10_fillWays_50 B17 B50 Q a1 a2 a3 z) : tq_T K 1 x mm_X10_fillWays 50 [.ref 42, .int a1, .int a2, .int a3, .null, .null] [] z Q := by
  unfold wb_X10_fillWays_50 at h
  refine tq_s_iload_n (kk := 3) (by decide +kernel) rfl ?_
  refine tq_if_lt (off := 73) (tgt := 124) (by decide +kernel) (by decide +kernel) (fun hc => ?_) (fun hc => ?_)
  · replace h := h.1 hc
    exact tq_to (tq_lk1 (tq_lk1 (tq_ld1 (tq_ld1 (tq_lk1 (tq_lk1 tq_l0)))))) (ac_X10_fillWays_124 hB17 h)
  · replace h := h.2 hc
    refine tq_s_iload_n (kk := 2) (by decide +kernel) rfl ?_
    refine tq_s_iload_n (kk := 3) (by decide +kernel) rfl ?_
    refine tq_k_ic (n := -1) (v := (-1 : Int32)) (by decide +kernel) kc_m1 ?_
    refine tq_s_ixor (by decide +kernel) ?_
    refine tq_s_iand (by decide +kernel) ?_
    refine tq_g_istore (i := 4) (fun v101 => [.ref 42, .int a1, .int a2, .int a3, .int v101, .null]) (by decide +kernel) (by decide) (fun _ => rfl) (fun v101 ev101 => ?_)
    replace h := h v101 ev101
    refine tq_k_ic (n := 0) (v := (0 : Int32)) (by decide +kernel) kc_0 ?_
    refine tq_s_istore (i := 5) (L9 := [.ref 42, .int a1, .int a2, .int a3, .int v101, .int (0 : Int32)]) (by decide +kernel) (by decide) rfl ?_
    exact ac_X10_fillWays_64 hB17 hB50 h
theorem ac_X10_fillWays_50 {K : Nat × (Nat → Int32)} {x : Nat} {Q : tq_O → tq_S → Prop} {B17 : Int32 → tq_S → Prop} {a1 : Int32} {a2 : Int32} {a3 : Int32} {z : tq_S} (hB17 : ∀ (b1 : Int32) (z : tq_S), B17 b1 z → tq_T K 1 x mm_X10_fillWays 17 [.ref 42, .int b1, .null, .null, .null, .null] [] z Q) (h : wc_X10_fillWays_50 B17 Q a1 a2 a3 z) : tq_T K 1 x mm_X10_fillWays 50 [.ref 42, .int a1, .int a2, .int a3, .null, .null] [] z Q :=
  tq_lp_T (σ := Int32 × tq_S) (s := (a3, z)) (G := fun s => tq_T K 1 x mm_X10_fillWays 50 [.ref 42, .int a1, .int a2, .int s.1, .null, .null] [] s.2 Q) (fun B hB s h => ab_X10_fillWays_50 hB17 (fun b3 z h => hB (b3, z) h) h) h
def wb_X10_fillWays_17 (B17 : Int32 → tq_S → Prop) (Q : tq_O → tq_S → Prop) (a1 : Int32) (z : tq_S) : Prop := (((tq_fi z 65) ≤ a1 → Q (.inl none) z) ∧ (¬ (tq_fi z 65) ≤ a1 → ∀ v101 : Int32, v101 = ((Int64.toInt32 ((Int64.toUInt64 (tq_fl z 67)) >>> ((Int32.toInt64 ((8 : Int32) * a1)).toUInt64 &&& Int64.toUInt64 63)).toInt64) &&& (255 : Int32)) → wc_X10_fillWays_50 B17 Q a1 v101 (255 : Int32) z))
def wc_X10_fillWays_17 (Q : tq_O → tq_S → Prop) (a1 : Int32) (z : tq_S) : Prop := tq_lp (σ := Int32 × tq_S) (fun B s => wb_X10_fillWays_17 (fun b1 z => B (b1, z)) Q s.1 s.2) (a1, z)
theorem ab_X10_fillWays_17 {K : Nat × (Nat → Int32)} {x : Nat} {Q : tq_O → tq_S → Prop} {B17 : Int32 → tq_S → Prop} {a1 : Int32} {z : tq_S} (hB17 : ∀ (b1 : Int32) (z : tq_S), B17 b1 z → tq_T K 1 x mm_X10_fillWays 17 [.ref 42, .int b1, .null, .null, .null, .null] [] z Q) (h : wb_X10_fillWays_17 B17 Q a1 z) : tq_T K 1 x mm_X10_fillWays 17 [.ref 42, .int a1, .null, .null, .null, .null] [] z Q := by
  unfold wb_X10_fillWays_17 at h
  refine tq_s_iload_n (kk := 1) (by decide +kernel) rfl ?_
  refine tq_s_aload_n (kk := 0) (by decide +kernel) rfl ?_
  refine fg_10_9_42 rfl (by decide +kernel) ?_
  refine fg_10_29_1 rfl (by decide +kernel) ?_
  refine tq_icmp_ge (off := 105) (tgt := 130) (by decide +kernel) (by decide +kernel) (fun hc => ?_) (fun hc => ?_)
  · replace h := h.1 hc
    exact tq_ret_v (st := []) (by decide +kernel) rfl h
  · replace h := h.2 hc
    refine tq_s_aload_n (kk := 0) (by decide +kernel) rfl ?_
    refine fg_10_9_42 rfl (by decide +kernel) ?_
    refine fg_10_35_1 rfl (by decide +kernel) ?_
    refine tq_k_bi (n := 8) (v := (8 : Int32)) (by decide +kernel) kb_8 ?_
    refine tq_s_iload_n (kk := 1) (by decide +kernel) rfl ?_
    refine tq_s_imul (by decide +kernel) ?_
    refine tq_s_lushr (by decide +kernel) ?_
    refine tq_s_l2i (by decide +kernel) ?_
    refine tq_k_si (n := 255) (v := (255 : Int32)) (by decide +kernel) ks_255 ?_
    refine tq_s_iand (by decide +kernel) ?_
    refine tq_g_istore_n (kk := 2) (fun v101 => [.ref 42, .int a1, .int v101, .null, .null, .null]) (by decide +kernel) (by decide) (fun _ => rfl) (fun v101 ev101 => ?_)
    replace h := h v101 ev101
    refine tq_k_si (n := 255) (v := (255 : Int32)) (by decide +kernel) ks_255 ?_
    refine tq_s_istore_n (kk := 3) (L9 := [.ref 42, .int a1, .int v101, .int (255 : Int32), .null, .null]) (by decide +kernel) (by decide) rfl ?_
    exact ac_X10_fillWays_50 hB17 h
theorem ac_X10_fillWays_17 {K : Nat × (Nat → Int32)} {x : Nat} {Q : tq_O → tq_S → Prop} {a1 : Int32} {z : tq_S} (h : wc_X10_fillWays_17 Q a1 z) : tq_T K 1 x mm_X10_fillWays 17 [.ref 42, .int a1, .null, .null, .null, .null] [] z Q :=
  tq_lp_T (σ := Int32 × tq_S) (s := (a1, z)) (G := fun s => tq_T K 1 x mm_X10_fillWays 17 [.ref 42, .int s.1, .null, .null, .null, .null] [] s.2 Q) (fun B hB s h => ab_X10_fillWays_17 (fun b1 z h => hB (b1, z) h) h) h
def wm_X10_fillWays  (z : tq_S) (Q : tq_O → tq_S → Prop) : Prop := wm_J7_fill_d0a16_r8 (0 : Int64) z (tq_wv fun z1 => ∀ z2 : tq_S, z2 = tq_sal z1 43 (vp_updL (tq_al z1 43) (Int32.toNatClampNeg (0 : Int32)) (1 : Int64)) → wc_X10_fillWays_17 Q (0 : Int32) z2)
theorem am_X10_fillWays {K : Nat × (Nat → Int32)} {x : Nat} {z : tq_S} {Q : tq_O → tq_S → Prop}  (h : wm_X10_fillWays z Q) : tq_M K 1 x mm_X10_fillWays [.ref 42] z Q := by
  unfold wm_X10_fillWays at h
  refine tq_enter (L := [.ref 42, .null, .null, .null, .null, .null]) mf_X10_fillWays.1 rfl rfl (Nat.le_of_ble_eq_true rfl) ?_
  refine tq_s_aload_n (kk := 0) (by decide +kernel) rfl ?_
  refine fg_10_13_42 rfl (by decide +kernel) ?_
  refine tq_k_lc (n := 0) (v := (0 : Int64)) (by decide +kernel) (by decide +kernel) ?_
  refine tq_callS (as := [.ref 43, .long (0 : Int64)]) (st := []) (d1 := 0) (x1 := 0) (x2 := x) (by decide +kernel) ln_10_23 mf_J7_fill_d0a16 rfl (by decide) np_J7_fill_d0a16 rfl (Nat.le_of_ble_eq_true rfl) (by decide) (Nat.zero_add _).symm (tq_M_mono (am_J7_fill_d0a16_r8 h) ?_)
  refine tq_wv_e (fun z1 h => ?_)
  refine tq_s_aload_n (kk := 0) (by decide +kernel) rfl ?_
  refine fg_10_13_42 rfl (by decide +kernel) ?_
  refine tq_k_ic (n := 0) (v := (0 : Int32)) (by decide +kernel) kc_0 ?_
  refine tq_k_lc (n := 1) (v := (1 : Int64)) (by decide +kernel) (by decide +kernel) ?_
  refine tq_g_last (by decide +kernel) sh_43 vi_0_256 (fun z2 ez2 => ?_)
  replace h := h z2 ez2
  refine tq_k_ic (n := 0) (v := (0 : Int32)) (by decide +kernel) kc_0 ?_
  refine tq_s_istore_n (kk := 1) (L9 := [.ref 42, .int (0 : Int32), .null, .null, .null, .null]) (by decide +kernel) (by decide) rfl ?_
  exact ac_X10_fillWays_17 h
def wm_J6_bitCount_0f7a4 (a0 : Int32) (z : tq_S) (Q : tq_O → tq_S → Prop) : Prop := ∀ v1 : Int32, v1 = (a0 - (((Int32.toUInt32 a0) >>> ((Int32.toUInt32 (1 : Int32)) &&& Int32.toUInt32 31)).toInt32 &&& (1431655765 : Int32))) → ∀ v2 : Int32, v2 = ((v1 &&& (858993459 : Int32)) + (((Int32.toUInt32 v1) >>> ((Int32.toUInt32 (2 : Int32)) &&& Int32.toUInt32 31)).toInt32 &&& (858993459 : Int32))) → ∀ v3 : Int32, v3 = ((v2 + ((Int32.toUInt32 v2) >>> ((Int32.toUInt32 (4 : Int32)) &&& Int32.toUInt32 31)).toInt32) &&& (252645135 : Int32)) → ∀ v4 : Int32, v4 = (v3 + ((Int32.toUInt32 v3) >>> ((Int32.toUInt32 (8 : Int32)) &&& Int32.toUInt32 31)).toInt32) → ∀ v5 : Int32, v5 = (v4 + ((Int32.toUInt32 v4) >>> ((Int32.toUInt32 (16 : Int32)) &&& Int32.toUInt32 31)).toInt32) → Q (.inl (some (.int (v5 &&& (63 : Int32))))) z
theorem am_J6_bitCount_0f7a4 {K : Nat × (Nat → Int32)} {x : Nat} {z : tq_S} {Q : tq_O → tq_S → Prop} {a0 : Int32} (h : wm_J6_bitCount_0f7a4 a0 z Q) : tq_M K 0 x mm_J6_bitCount_0f7a4 [.int a0] z Q := by
  unfold wm_J6_bitCount_0f7a4 at h
  refine tq_enter (L := [.int a0]) mf_J6_bitCount_0f7a4.1 rfl rfl (Nat.le_of_ble_eq_true rfl) ?_
  refine tq_s_iload_n (kk := 0) (by decide +kernel) rfl ?_
  refine tq_s_iload_n (kk := 0) (by decide +kernel) rfl ?_
  refine tq_k_ic (n := 1) (v := (1 : Int32)) (by decide +kernel) kc_1 ?_
  refine tq_s_iushr (by decide +kernel) ?_
  refine tq_s_ldcw (i := 265) (v := (1431655765 : Int32)) (by decide +kernel) (by decide +kernel) ?_
  refine tq_s_iand (by decide +kernel) ?_
  refine tq_s_isub (by decide +kernel) ?_
  refine tq_g_istore_n (kk := 0) (fun v1 => [.int v1]) (by decide +kernel) (by decide) (fun _ => rfl) (fun v1 ev1 => ?_)
  replace h := h v1 ev1
  refine tq_s_iload_n (kk := 0) (by decide +kernel) rfl ?_
  refine tq_s_ldcw (i := 266) (v := (858993459 : Int32)) (by decide +kernel) (by decide +kernel) ?_
  refine tq_s_iand (by decide +kernel) ?_
  refine tq_s_iload_n (kk := 0) (by decide +kernel) rfl ?_
  refine tq_k_ic (n := 2) (v := (2 : Int32)) (by decide +kernel) kc_2 ?_
  refine tq_s_iushr (by decide +kernel) ?_
  refine tq_s_ldcw (i := 266) (v := (858993459 : Int32)) (by decide +kernel) (by decide +kernel) ?_
  refine tq_s_iand (by decide +kernel) ?_
  refine tq_s_iadd (by decide +kernel) ?_
  refine tq_g_istore_n (kk := 0) (fun v2 => [.int v2]) (by decide +kernel) (by decide) (fun _ => rfl) (fun v2 ev2 => ?_)
  replace h := h v2 ev2
  refine tq_s_iload_n (kk := 0) (by decide +kernel) rfl ?_
  refine tq_s_iload_n (kk := 0) (by decide +kernel) rfl ?_
  refine tq_k_ic (n := 4) (v := (4 : Int32)) (by decide +kernel) kc_4 ?_
  refine tq_s_iushr (by decide +kernel) ?_
  refine tq_s_iadd (by decide +kernel) ?_
  refine tq_s_ldcw (i := 267) (v := (252645135 : Int32)) (by decide +kernel) (by decide +kernel) ?_
  refine tq_s_iand (by decide +kernel) ?_
  refine tq_g_istore_n (kk := 0) (fun v3 => [.int v3]) (by decide +kernel) (by decide) (fun _ => rfl) (fun v3 ev3 => ?_)
  replace h := h v3 ev3
  refine tq_s_iload_n (kk := 0) (by decide +kernel) rfl ?_
  refine tq_s_iload_n (kk := 0) (by decide +kernel) rfl ?_
  refine tq_k_bi (n := 8) (v := (8 : Int32)) (by decide +kernel) kb_8 ?_
  refine tq_s_iushr (by decide +kernel) ?_
  refine tq_s_iadd (by decide +kernel) ?_
  refine tq_g_istore_n (kk := 0) (fun v4 => [.int v4]) (by decide +kernel) (by decide) (fun _ => rfl) (fun v4 ev4 => ?_)
  replace h := h v4 ev4
  refine tq_s_iload_n (kk := 0) (by decide +kernel) rfl ?_
  refine tq_s_iload_n (kk := 0) (by decide +kernel) rfl ?_
  refine tq_k_bi (n := 16) (v := (16 : Int32)) (by decide +kernel) kb_16 ?_
  refine tq_s_iushr (by decide +kernel) ?_
  refine tq_s_iadd (by decide +kernel) ?_
  refine tq_g_istore_n (kk := 0) (fun v5 => [.int v5]) (by decide +kernel) (by decide) (fun _ => rfl) (fun v5 ev5 => ?_)
  replace h := h v5 ev5
  refine tq_s_iload_n (kk := 0) (by decide +kernel) rfl ?_
  refine tq_k_bi (n := 63) (v := (63 : Int32)) (by decide +kernel) kb_63 ?_
  refine tq_s_iand (by decide +kernel) ?_
  exact tq_ret_i (st := []) (by decide +kernel) rfl h
def wc_X10_countRooks_38 (B9 : Int64 → Int32 → tq_S → Prop) (Q : tq_O → tq_S → Prop) (a1 : Int32) (a4 : Int32) (s0 : Int64) (s1 : Int64) (z : tq_S) : Prop := ∀ v101 : Int64, v101 = (s1 + s0) → ∀ v102 : Int32, v102 = a4 + (1 : Int32) → B9 v101 v102 z
theorem ac_X10_countRooks_38 {K : Nat × (Nat → Int32)} {x : Nat} {Q : tq_O → tq_S → Prop} {B9 : Int64 → Int32 → tq_S → Prop} {a1 : Int32} {a4 : Int32} {s0 : Int64} {s1 : Int64} {z : tq_S} (hB9 : ∀ (b2 : Int64) (b4 : Int32) (z : tq_S), B9 b2 b4 z → tq_T K 2 x mm_X10_countRooks 9 [.ref 42, .int a1, .long b2, .null, .int b4] [] z Q) (h : wc_X10_countRooks_38 B9 Q a1 a4 s0 s1 z) : tq_T K 2 x mm_X10_countRooks 38 [.ref 42, .int a1, .null, .null, .int a4] [.long s0, .long s1] z Q := by
  unfold wc_X10_countRooks_38 at h
  refine tq_s_ladd (by decide +kernel) ?_
  refine tq_g_lstore_n (kk := 2) (fun v101 => [.ref 42, .int a1, .long v101, .null, .int a4]) (by decide +kernel) (by decide) (fun _ => rfl) (fun v101 ev101 => ?_)
  replace h := h v101 ev101
  refine tq_g_iinc (i := 4) (fun v102 => [.ref 42, .int a1, .long v101, .null, .int v102]) (by decide +kernel) rfl (1 : Int32) kc_1 (fun _ => rfl) (fun v102 ev102 => ?_)
  replace h := h v102 ev102
  refine tq_s_goto (off := -34) (tgt := 9) (by decide +kernel) (by decide +kernel) ?_
  exact hB9 _ _ _ h
def wb_X10_countRooks_9 (B9 : Int64 → Int32 → tq_S → Prop) (Q : tq_O → tq_S → Prop) (a1 : Int32) (a2 : Int64) (a4 : Int32) (z : tq_S) : Prop := (((256 : Int32) ≤ a4 → Q (.inl (some (.long a2))) z) ∧ (¬ (256 : Int32) ≤ a4 → wm_J6_bitCount_0f7a4 a4 z (tq_wi fun r102 z101 => ((¬ r102 = a1 → wc_X10_countRooks_38 B9 Q a1 a4 (0 : Int64) a2 z101) ∧ (r102 = a1 → vp_in a4 256 ∧ wc_X10_countRooks_38 B9 Q a1 a4 (tq_al z101 43 (Int32.toNatClampNeg a4)) a2 z101)))))
def wc_X10_countRooks_9 (Q : tq_O → tq_S → Prop) (a1 : Int32) (a2 : Int64) (a4 : Int32) (z : tq_S) : Prop := tq_lp (σ := Int64 × Int32 × tq_S) (fun B s => wb_X10_countRooks_9 (fun b2 b4 z => B (b2, b4, z)) Q a1 s.1 s.2.1 s.2.2) (a2, a4, z)
theorem ab_X10_countRooks_9 {K : Nat × (Nat → Int32)} {x : Nat} {Q : tq_O → tq_S → Prop} {B9 : Int64 → Int32 → tq_S → Prop} {a1 : Int32} {a2 : Int64} {a4 : Int32} {z : tq_S} (hB9 : ∀ (b2 : Int64) (b4 : Int32) (z : tq_S), B9 b2 b4 z → tq_T K 2 x mm_X10_countRooks 9 [.ref 42, .int a1, .long b2, .null, .int b4] [] z Q) (h : wb_X10_countRooks_9 B9 Q a1 a2 a4 z) : tq_T K 2 x mm_X10_countRooks 9 [.ref 42, .int a1, .long a2, .null, .int a4] [] z Q := by
  unfold wb_X10_countRooks_9 at h
  refine tq_s_iload (i := 4) (by decide +kernel) rfl ?_
  refine tq_k_si (n := 256) (v := (256 : Int32)) (by decide +kernel) ks_256 ?_
  refine tq_icmp_ge (off := 32) (tgt := 46) (by decide +kernel) (by decide +kernel) (fun hc => ?_) (fun hc => ?_)
  · replace h := h.1 hc
    refine tq_s_lload_n (kk := 2) (by decide +kernel) rfl ?_
    exact tq_ret_l (st := []) (by decide +kernel) rfl h
  · replace h := h.2 hc
    refine tq_s_lload_n (kk := 2) (by decide +kernel) rfl ?_
    refine tq_s_iload (i := 4) (by decide +kernel) rfl ?_
    refine tq_callS (as := [.int a4]) (st := [.long a2]) (d1 := 0) (x1 := 0) (x2 := x) (by decide +kernel) ln_10_42 mf_J6_bitCount_0f7a4 rfl (by decide) np_J6_bitCount_0f7a4 rfl (Nat.le_of_ble_eq_true rfl) (by decide) (Nat.zero_add _).symm (tq_M_mono (am_J6_bitCount_0f7a4 h) ?_)
    refine tq_wi_e (fun r102 z101 h => ?_)
    refine tq_s_iload_n (kk := 1) (by decide +kernel) rfl ?_
    refine tq_icmp_ne (off := 13) (tgt := 37) (by decide +kernel) (by decide +kernel) (fun hc => ?_) (fun hc => ?_)
    · replace h := h.1 hc
      refine tq_k_lc (n := 0) (v := (0 : Int64)) (by decide +kernel) (by decide +kernel) ?_
      exact tq_to (tq_lk1 (tq_lk1 (tq_ld1 (tq_lk1 (tq_lk1 tq_l0))))) (ac_X10_countRooks_38 hB9 h)
    · replace h := h.2 hc
      refine tq_s_aload_n (kk := 0) (by decide +kernel) rfl ?_
      refine fg_10_13_42 rfl (by decide +kernel) ?_
      refine tq_s_iload (i := 4) (by decide +kernel) rfl ?_
      refine tq_s_lald (by decide +kernel) sh_43 h.1 ?_
      replace h := h.2
      refine tq_s_goto (off := 4) (tgt := 38) (by decide +kernel) (by decide +kernel) ?_
      exact tq_to (tq_lk1 (tq_lk1 (tq_ld1 (tq_lk1 (tq_lk1 tq_l0))))) (ac_X10_countRooks_38 hB9 h)
theorem ac_X10_countRooks_9 {K : Nat × (Nat → Int32)} {x : Nat} {Q : tq_O → tq_S → Prop} {a1 : Int32} {a2 : Int64} {a4 : Int32} {z : tq_S} (h : wc_X10_countRooks_9 Q a1 a2 a4 z) : tq_T K 2 x mm_X10_countRooks 9 [.ref 42, .int a1, .long a2, .null, .int a4] [] z Q :=
  tq_lp_T (σ := Int64 × Int32 × tq_S) (s := (a2, a4, z)) (G := fun s => tq_T K 2 x mm_X10_countRooks 9 [.ref 42, .int a1, .long s.1, .null, .int s.2.1] [] s.2.2 Q) (fun B hB s h => ab_X10_countRooks_9 (fun b2 b4 z h => hB (b2, b4, z) h) h) h
def wm_X10_countRooks (a1 : Int32) (z : tq_S) (Q : tq_O → tq_S → Prop) : Prop := wm_X10_fillWays z (tq_wv fun z1 => wc_X10_countRooks_9 Q a1 (0 : Int64) (0 : Int32) z1)
theorem am_X10_countRooks {K : Nat × (Nat → Int32)} {x : Nat} {z : tq_S} {Q : tq_O → tq_S → Prop} {a1 : Int32} (h : wm_X10_countRooks a1 z Q) : tq_M K 2 x mm_X10_countRooks [.ref 42, .int a1] z Q := by
  unfold wm_X10_countRooks at h
  refine tq_enter (L := [.ref 42, .int a1, .null, .null, .null]) mf_X10_countRooks.1 rfl rfl (Nat.le_of_ble_eq_true rfl) ?_
  refine tq_s_aload_n (kk := 0) (by decide +kernel) rfl ?_
  refine tq_callV (as := []) (st := []) (d1 := 1) (x1 := 0) (x2 := x) (by decide +kernel) ln_10_39 mf_X10_fillWays rfl sh_42 rfl (by decide) np_X10_fillWays rfl (Nat.le_of_ble_eq_true rfl) (by decide) (Nat.zero_add _).symm (tq_M_mono (am_X10_fillWays h) ?_)
  refine tq_wv_e (fun z1 h => ?_)
  refine tq_k_lc (n := 0) (v := (0 : Int64)) (by decide +kernel) (by decide +kernel) ?_
  refine tq_s_lstore_n (kk := 2) (L9 := [.ref 42, .int a1, .long (0 : Int64), .null, .null]) (by decide +kernel) (by decide) rfl ?_
  refine tq_k_ic (n := 0) (v := (0 : Int32)) (by decide +kernel) kc_0 ?_
  refine tq_s_istore (i := 4) (L9 := [.ref 42, .int a1, .long (0 : Int64), .null, .int (0 : Int32)]) (by decide +kernel) (by decide) rfl ?_
  exact ac_X10_countRooks_9 h
def wm_X11_rooks (a1 : Int32) (z : tq_S) (Q : tq_O → tq_S → Prop) : Prop := wm_X11_isFrom (0 : Int32) a1 (8 : Int32) z (tq_wi fun r2 z1 => ((¬ r2 = 0 → wm_X10_countRooks a1 z1 (tq_wl fun r4 z3 => wm_X11_say r4 z3 (tq_wi fun r6 z5 => Q (.inl (some (.int r6))) z5))) ∧ (r2 = 0 → Q (.inr 1) z1)))
theorem am_X11_rooks {K : Nat × (Nat → Int32)} {z : tq_S} {Q : tq_O → tq_S → Prop} {a1 : Int32} (h : wm_X11_rooks a1 z Q) : tq_M K 4 1 mm_X11_rooks [.ref 0, .int a1] z Q := by
  unfold wm_X11_rooks at h
  refine tq_enter (L := [.ref 0, .int a1]) mf_X11_rooks.1 rfl rfl (Nat.le_of_ble_eq_true rfl) ?_
  refine tq_k_ic (n := 0) (v := (0 : Int32)) (by decide +kernel) kc_0 ?_
  refine tq_s_iload_n (kk := 1) (by decide +kernel) rfl ?_
  refine tq_k_bi (n := 8) (v := (8 : Int32)) (by decide +kernel) kb_8 ?_
  refine tq_callS (as := [.int (0 : Int32), .int a1, .int (8 : Int32)]) (st := []) (d1 := 0) (x1 := 0) (x2 := 1) (by decide +kernel) ln_11_101 mf_X11_isFrom rfl (by decide) np_X11_isFrom rfl (Nat.le_of_ble_eq_true rfl) (by decide) (Nat.zero_add _).symm (tq_M_mono (am_X11_isFrom h) ?_)
  refine tq_wi_e (fun r2 z1 h => ?_)
  refine tq_if_ne (off := 14) (tgt := 21) (by decide +kernel) (by decide +kernel) (fun hc => ?_) (fun hc => ?_)
  · replace h := h.1 hc
    refine tq_s_aload_n (kk := 0) (by decide +kernel) rfl ?_
    refine tq_s_aload_n (kk := 0) (by decide +kernel) rfl ?_
    refine fg_11_79_0 rfl (by decide +kernel) ?_
    refine tq_s_iload_n (kk := 1) (by decide +kernel) rfl ?_
    refine tq_callVN (as := [.int a1]) (st := [.ref 0]) (d1 := 2) (x1 := 0) (x2 := 1) (by decide +kernel) ln_11_422 mf_X10_countRooks rfl sh_42 rfl (by decide) np_X10_countRooks rfl (Nat.le_of_ble_eq_true rfl) (by decide) (Nat.zero_add _).symm (tq_M_mono (am_X10_countRooks h) ?_)
    refine tq_wl_e (fun r4 z3 h => ?_)
    refine tq_callV (as := [.long r4]) (st := []) (d1 := 3) (x1 := 0) (x2 := 1) (by decide +kernel) ln_11_196 mf_X11_say rfl sh_0 rfl (by decide) np_X11_say rfl (Nat.le_of_ble_eq_true rfl) (by decide) (Nat.zero_add _).symm (tq_M_mono (am_X11_say h) ?_)
    refine tq_wi_e (fun r6 z5 h => ?_)
    exact tq_ret_i (st := []) (by decide +kernel) rfl h
  · replace h := h.2 hc
    exact tq_throwSW th_11_105_420 rfl (by decide +kernel) (by decide +kernel) (by decide +kernel) (by decide +kernel) (by decide +kernel) (Nat.le_of_ble_eq_true rfl) rfl (Nat.le_refl 1) h
def wc_X10_findMostRooks_35 (B8 : Int32 → Int32 → tq_S → Prop) (Q : tq_O → tq_S → Prop) (a1 : Int32) (a2 : Int32) (z : tq_S) : Prop := ∀ v101 : Int32, v101 = a2 + (1 : Int32) → B8 a1 v101 z
theorem ac_X10_findMostRooks_35 {K : Nat × (Nat → Int32)} {x : Nat} {Q : tq_O → tq_S → Prop} {B8 : Int32 → Int32 → tq_S → Prop} {a1 : Int32} {a2 : Int32} {z : tq_S} (hB8 : ∀ (b1 : Int32) (b2 : Int32) (z : tq_S), B8 b1 b2 z → tq_T K 2 x mm_X10_findMostRooks 8 [.ref 42, .int b1, .int b2] [] z Q) (h : wc_X10_findMostRooks_35 B8 Q a1 a2 z) : tq_T K 2 x mm_X10_findMostRooks 35 [.ref 42, .int a1, .int a2] [] z Q := by
  unfold wc_X10_findMostRooks_35 at h
  refine tq_g_iinc (i := 2) (fun v101 => [.ref 42, .int a1, .int v101]) (by decide +kernel) rfl (1 : Int32) kc_1 (fun _ => rfl) (fun v101 ev101 => ?_)
  replace h := h v101 ev101
  refine tq_s_goto (off := -30) (tgt := 8) (by decide +kernel) (by decide +kernel) ?_
  exact hB8 _ _ _ h
def wb_X10_findMostRooks_8 (B8 : Int32 → Int32 → tq_S → Prop) (Q : tq_O → tq_S → Prop) (a1 : Int32) (a2 : Int32) (z : tq_S) : Prop := (((256 : Int32) ≤ a2 → Q (.inl (some (.int a1))) z) ∧ (¬ (256 : Int32) ≤ a2 → vp_in a2 256 ∧ (((tq_al z 43 (Int32.toNatClampNeg a2)) = (0 : Int64) → wc_X10_findMostRooks_35 B8 Q a1 a2 z) ∧ (¬ (tq_al z 43 (Int32.toNatClampNeg a2)) = (0 : Int64) → wm_J6_bitCount_0f7a4 a2 z (tq_wi fun r102 z101 => wm_J9_max_7cf53 a1 r102 z101 (tq_wi fun r104 z103 => wc_X10_findMostRooks_35 B8 Q r104 a2 z103))))))
def wc_X10_findMostRooks_8 (Q : tq_O → tq_S → Prop) (a1 : Int32) (a2 : Int32) (z : tq_S) : Prop := tq_lp (σ := Int32 × Int32 × tq_S) (fun B s => wb_X10_findMostRooks_8 (fun b1 b2 z => B (b1, b2, z)) Q s.1 s.2.1 s.2.2) (a1, a2, z)
theorem ab_X10_findMostRooks_8 {K : Nat × (Nat → Int32)} {x : Nat} {Q : tq_O → tq_S → Prop} {B8 : Int32 → Int32 → tq_S → Prop} {a1 : Int32} {a2 : Int32} {z : tq_S} (hB8 : ∀ (b1 : Int32) (b2 : Int32) (z : tq_S), B8 b1 b2 z → tq_T K 2 x mm_X10_findMostRooks 8 [.ref 42, .int b1, .int b2] [] z Q) (h : wb_X10_findMostRooks_8 B8 Q a1 a2 z) : tq_T K 2 x mm_X10_findMostRooks 8 [.ref 42, .int a1, .int a2] [] z Q := by
  unfold wb_X10_findMostRooks_8 at h
  refine tq_s_iload_n (kk := 2) (by decide +kernel) rfl ?_
  refine tq_k_si (n := 256) (v := (256 : Int32)) (by decide +kernel) ks_256 ?_
  refine tq_icmp_ge (off := 29) (tgt := 41) (by decide +kernel) (by decide +kernel) (fun hc => ?_) (fun hc => ?_)
  · replace h := h.1 hc
    refine tq_s_iload_n (kk := 1) (by decide +kernel) rfl ?_
    exact tq_ret_i (st := []) (by decide +kernel) rfl h
  · replace h := h.2 hc
    refine tq_s_aload_n (kk := 0) (by decide +kernel) rfl ?_
    refine fg_10_13_42 rfl (by decide +kernel) ?_
    refine tq_s_iload_n (kk := 2) (by decide +kernel) rfl ?_
    refine tq_s_lald (by decide +kernel) sh_43 h.1 ?_
    replace h := h.2
    refine tq_k_lc (n := 0) (v := (0 : Int64)) (by decide +kernel) (by decide +kernel) ?_
    refine tq_lcmp_eq (off := 12) (tgt := 35) (by decide +kernel) (by decide +kernel) (by decide +kernel) (fun hc => ?_) (fun hc => ?_)
    · replace h := h.1 hc
      exact ac_X10_findMostRooks_35 hB8 h
    · replace h := h.2 hc
      refine tq_s_iload_n (kk := 1) (by decide +kernel) rfl ?_
      refine tq_s_iload_n (kk := 2) (by decide +kernel) rfl ?_
      refine tq_callS (as := [.int a2]) (st := [.int a1]) (d1 := 0) (x1 := 0) (x2 := x) (by decide +kernel) ln_10_42 mf_J6_bitCount_0f7a4 rfl (by decide) np_J6_bitCount_0f7a4 rfl (Nat.le_of_ble_eq_true rfl) (by decide) (Nat.zero_add _).symm (tq_M_mono (am_J6_bitCount_0f7a4 h) ?_)
      refine tq_wi_e (fun r102 z101 h => ?_)
      refine tq_callS (as := [.int a1, .int r102]) (st := []) (d1 := 0) (x1 := 0) (x2 := x) (by decide +kernel) ln_10_48 mf_J9_max_7cf53 rfl (by decide) np_J9_max_7cf53 rfl (Nat.le_of_ble_eq_true rfl) (by decide) (Nat.zero_add _).symm (tq_M_mono (am_J9_max_7cf53 h) ?_)
      refine tq_wi_e (fun r104 z103 h => ?_)
      refine tq_s_istore_n (kk := 1) (L9 := [.ref 42, .int r104, .int a2]) (by decide +kernel) (by decide) rfl ?_
      exact ac_X10_findMostRooks_35 hB8 h
theorem ac_X10_findMostRooks_8 {K : Nat × (Nat → Int32)} {x : Nat} {Q : tq_O → tq_S → Prop} {a1 : Int32} {a2 : Int32} {z : tq_S} (h : wc_X10_findMostRooks_8 Q a1 a2 z) : tq_T K 2 x mm_X10_findMostRooks 8 [.ref 42, .int a1, .int a2] [] z Q :=
  tq_lp_T (σ := Int32 × Int32 × tq_S) (s := (a1, a2, z)) (G := fun s => tq_T K 2 x mm_X10_findMostRooks 8 [.ref 42, .int s.1, .int s.2.1] [] s.2.2 Q) (fun B hB s h => ab_X10_findMostRooks_8 (fun b1 b2 z h => hB (b1, b2, z) h) h) h
def wm_X10_findMostRooks  (z : tq_S) (Q : tq_O → tq_S → Prop) : Prop := wm_X10_fillWays z (tq_wv fun z1 => wc_X10_findMostRooks_8 Q (0 : Int32) (0 : Int32) z1)
theorem am_X10_findMostRooks {K : Nat × (Nat → Int32)} {x : Nat} {z : tq_S} {Q : tq_O → tq_S → Prop}  (h : wm_X10_findMostRooks z Q) : tq_M K 2 x mm_X10_findMostRooks [.ref 42] z Q := by
  unfold wm_X10_findMostRooks at h
  refine tq_enter (L := [.ref 42, .null, .null]) mf_X10_findMostRooks.1 rfl rfl (Nat.le_of_ble_eq_true rfl) ?_
  refine tq_s_aload_n (kk := 0) (by decide +kernel) rfl ?_
  refine tq_callV (as := []) (st := []) (d1 := 1) (x1 := 0) (x2 := x) (by decide +kernel) ln_10_39 mf_X10_fillWays rfl sh_42 rfl (by decide) np_X10_fillWays rfl (Nat.le_of_ble_eq_true rfl) (by decide) (Nat.zero_add _).symm (tq_M_mono (am_X10_fillWays h) ?_)
  refine tq_wv_e (fun z1 h => ?_)
  refine tq_k_ic (n := 0) (v := (0 : Int32)) (by decide +kernel) kc_0 ?_
  refine tq_s_istore_n (kk := 1) (L9 := [.ref 42, .int (0 : Int32), .null]) (by decide +kernel) (by decide) rfl ?_
  refine tq_k_ic (n := 0) (v := (0 : Int32)) (by decide +kernel) kc_0 ?_
  refine tq_s_istore_n (kk := 2) (L9 := [.ref 42, .int (0 : Int32), .int (0 : Int32)]) (by decide +kernel) (by decide) rfl ?_
  exact ac_X10_findMostRooks_8 h
def wm_X11_mostRooks  (z : tq_S) (Q : tq_O → tq_S → Prop) : Prop := wm_X10_findMostRooks z (tq_wi fun r2 z1 => Q (.inl (some (.int r2))) z1)
theorem am_X11_mostRooks {K : Nat × (Nat → Int32)} {x : Nat} {z : tq_S} {Q : tq_O → tq_S → Prop}  (h : wm_X11_mostRooks z Q) : tq_M K 3 x mm_X11_mostRooks [.ref 0] z Q := by
  unfold wm_X11_mostRooks at h
  refine tq_enter (L := [.ref 0]) mf_X11_mostRooks.1 rfl rfl (Nat.le_of_ble_eq_true rfl) ?_
  refine tq_s_aload_n (kk := 0) (by decide +kernel) rfl ?_
  refine fg_11_79_0 rfl (by decide +kernel) ?_
  refine tq_callVN (as := []) (st := []) (d1 := 2) (x1 := 0) (x2 := x) (by decide +kernel) ln_11_425 mf_X10_findMostRooks rfl sh_42 rfl (by decide) np_X10_findMostRooks rfl (Nat.le_of_ble_eq_true rfl) (by decide) (Nat.zero_add _).symm (tq_M_mono (am_X10_findMostRooks h) ?_)
  refine tq_wi_e (fun r2 z1 h => ?_)
  exact tq_ret_i (st := []) (by decide +kernel) rfl h
def wb_J7_fill_d0a16_r9_6 (B6 : Int32 → tq_S → Prop) (Q : tq_O → tq_S → Prop) (a1 : Int64) (a3 : Int32) (a4 : Int32) (z : tq_S) : Prop := ((a4 ≤ a3 → Q (.inl none) z) ∧ (¬ a4 ≤ a3 → vp_in a3 1024 ∧ ∀ z101 : tq_S, z101 = tq_sal z 45 (vp_updL (tq_al z 45) (Int32.toNatClampNeg a3) a1) → ∀ v102 : Int32, v102 = a3 + (1 : Int32) → B6 v102 z101))
def wc_J7_fill_d0a16_r9_6 (Q : tq_O → tq_S → Prop) (a1 : Int64) (a3 : Int32) (a4 : Int32) (z : tq_S) : Prop := tq_lp (σ := Int32 × tq_S) (fun B s => wb_J7_fill_d0a16_r9_6 (fun b3 z => B (b3, z)) Q a1 s.1 a4 s.2) (a3, z)
theorem ab_J7_fill_d0a16_r9_6 {K : Nat × (Nat → Int32)} {x : Nat} {Q : tq_O → tq_S → Prop} {B6 : Int32 → tq_S → Prop} {a1 : Int64} {a3 : Int32} {a4 : Int32} {z : tq_S} (hB6 : ∀ (b3 : Int32) (z : tq_S), B6 b3 z → tq_T K 0 x mm_J7_fill_d0a16 6 [.ref 45, .long a1, .null, .int b3, .int a4] [] z Q) (h : wb_J7_fill_d0a16_r9_6 B6 Q a1 a3 a4 z) : tq_T K 0 x mm_J7_fill_d0a16 6 [.ref 45, .long a1, .null, .int a3, .int a4] [] z Q := by
  unfold wb_J7_fill_d0a16_r9_6 at h
  refine tq_s_iload_n (kk := 3) (by decide +kernel) rfl ?_
  refine tq_s_iload (i := 4) (by decide +kernel) rfl ?_
  refine tq_icmp_ge (off := 13) (tgt := 22) (by decide +kernel) (by decide +kernel) (fun hc => ?_) (fun hc => ?_)
  · replace h := h.1 hc
    exact tq_ret_v (st := []) (by decide +kernel) rfl h
  · replace h := h.2 hc
    refine tq_s_aload_n (kk := 0) (by decide +kernel) rfl ?_
    refine tq_s_iload_n (kk := 3) (by decide +kernel) rfl ?_
    refine tq_s_lload_n (kk := 1) (by decide +kernel) rfl ?_
    refine tq_g_last (by decide +kernel) sh_45 h.1 (fun z101 ez101 => ?_)
    replace h := h.2 z101 ez101
    refine tq_g_iinc (i := 3) (fun v102 => [.ref 45, .long a1, .null, .int v102, .int a4]) (by decide +kernel) rfl (1 : Int32) kc_1 (fun _ => rfl) (fun v102 ev102 => ?_)
    replace h := h v102 ev102
    refine tq_s_goto (off := -13) (tgt := 6) (by decide +kernel) (by decide +kernel) ?_
    exact hB6 _ _ h
theorem ac_J7_fill_d0a16_r9_6 {K : Nat × (Nat → Int32)} {x : Nat} {Q : tq_O → tq_S → Prop} {a1 : Int64} {a3 : Int32} {a4 : Int32} {z : tq_S} (h : wc_J7_fill_d0a16_r9_6 Q a1 a3 a4 z) : tq_T K 0 x mm_J7_fill_d0a16 6 [.ref 45, .long a1, .null, .int a3, .int a4] [] z Q :=
  tq_lp_T (σ := Int32 × tq_S) (s := (a3, z)) (G := fun s => tq_T K 0 x mm_J7_fill_d0a16 6 [.ref 45, .long a1, .null, .int s.1, .int a4] [] s.2 Q) (fun B hB s h => ab_J7_fill_d0a16_r9_6 (fun b3 z h => hB (b3, z) h) h) h
def wm_J7_fill_d0a16_r9 (a1 : Int64) (z : tq_S) (Q : tq_O → tq_S → Prop) : Prop := ∀ v1 : Int32, v1 = (Int32.ofNat 1024) → wc_J7_fill_d0a16_r9_6 Q a1 (0 : Int32) v1 z
theorem am_J7_fill_d0a16_r9 {K : Nat × (Nat → Int32)} {x : Nat} {z : tq_S} {Q : tq_O → tq_S → Prop} {a1 : Int64} (h : wm_J7_fill_d0a16_r9 a1 z Q) : tq_M K 0 x mm_J7_fill_d0a16 [.ref 45, .long a1] z Q := by
  unfold wm_J7_fill_d0a16_r9 at h
  refine tq_enter (L := [.ref 45, .long a1, .null, .null, .null]) mf_J7_fill_d0a16.1 rfl rfl (Nat.le_of_ble_eq_true rfl) ?_
  refine tq_k_ic (n := 0) (v := (0 : Int32)) (by decide +kernel) kc_0 ?_
  refine tq_s_istore_n (kk := 3) (L9 := [.ref 45, .long a1, .null, .int (0 : Int32), .null]) (by decide +kernel) (by decide) rfl ?_
  refine tq_s_aload_n (kk := 0) (by decide +kernel) rfl ?_
  refine tq_s_alen (by decide +kernel) sh_45 (by decide) ?_
  refine tq_g_istore (i := 4) (fun v1 => [.ref 45, .long a1, .null, .int (0 : Int32), .int v1]) (by decide +kernel) (by decide) (fun _ => rfl) (fun v1 ev1 => ?_)
  replace h := h v1 ev1
  exact ac_J7_fill_d0a16_r9_6 h
def wc_X10_add_43 (Q : tq_O → tq_S → Prop) (a1 : Int32) (a2 : Int64) (a6 : Int32) (z : tq_S) : Prop := vp_in a6 1024 ∧ ∀ z101 : tq_S, z101 = tq_sal z 45 (vp_updL (tq_al z 45) (Int32.toNatClampNeg a6) ((a2 <<< ((Int32.toInt64 (18 : Int32)) &&& 63)) ||| (Int32.toInt64 a1))) → Q (.inl none) z101
theorem ac_X10_add_43 {K : Nat × (Nat → Int32)} {x : Nat} {Q : tq_O → tq_S → Prop} {a1 : Int32} {a2 : Int64} {a6 : Int32} {z : tq_S} (h : wc_X10_add_43 Q a1 a2 a6 z) : tq_T K 0 x mm_X10_add 43 [.ref 42, .int a1, .long a2, .null, .null, .null, .int a6] [] z Q := by
  unfold wc_X10_add_43 at h
  refine tq_s_aload_n (kk := 0) (by decide +kernel) rfl ?_
  refine fg_10_20_42 rfl (by decide +kernel) ?_
  refine tq_s_iload (i := 6) (by decide +kernel) rfl ?_
  refine tq_s_lload_n (kk := 2) (by decide +kernel) rfl ?_
  refine tq_k_bi (n := 18) (v := (18 : Int32)) (by decide +kernel) kb_18 ?_
  refine tq_s_lshl (by decide +kernel) ?_
  refine tq_s_iload_n (kk := 1) (by decide +kernel) rfl ?_
  refine tq_s_i2l (by decide +kernel) ?_
  refine tq_s_lor (by decide +kernel) ?_
  refine tq_g_last (by decide +kernel) sh_45 h.1 (fun z101 ez101 => ?_)
  replace h := h.2 z101 ez101
  exact tq_ret_v (st := []) (by decide +kernel) rfl h
def wc_X10_add_75 (Q : tq_O → tq_S → Prop) (a2 : Int64) (a6 : Int32) (z : tq_S) : Prop := vp_in a6 1024 ∧ vp_in a6 1024 ∧ ∀ z101 : tq_S, z101 = tq_sal z 45 (vp_updL (tq_al z 45) (Int32.toNatClampNeg a6) ((tq_al z 45 (Int32.toNatClampNeg a6)) + (a2 <<< ((Int32.toInt64 (18 : Int32)) &&& 63)))) → Q (.inl none) z101
theorem ac_X10_add_75 {K : Nat × (Nat → Int32)} {x : Nat} {Q : tq_O → tq_S → Prop} {a2 : Int64} {a6 : Int32} {z : tq_S} (h : wc_X10_add_75 Q a2 a6 z) : tq_T K 0 x mm_X10_add 75 [.ref 42, .null, .long a2, .null, .null, .null, .int a6] [] z Q := by
  unfold wc_X10_add_75 at h
  refine tq_s_aload_n (kk := 0) (by decide +kernel) rfl ?_
  refine fg_10_20_42 rfl (by decide +kernel) ?_
  refine tq_s_iload (i := 6) (by decide +kernel) rfl ?_
  refine tq_s_dup2_11 (by decide +kernel) rfl rfl ?_
  refine tq_s_lald (by decide +kernel) sh_45 h.1 ?_
  replace h := h.2
  refine tq_s_lload_n (kk := 2) (by decide +kernel) rfl ?_
  refine tq_k_bi (n := 18) (v := (18 : Int32)) (by decide +kernel) kb_18 ?_
  refine tq_s_lshl (by decide +kernel) ?_
  refine tq_s_ladd (by decide +kernel) ?_
  refine tq_g_last (by decide +kernel) sh_45 h.1 (fun z101 ez101 => ?_)
  replace h := h.2 z101 ez101
  exact tq_ret_v (st := []) (by decide +kernel) rfl h
def wb_X10_add_12 (B12 : Int32 → tq_S → Prop) (Q : tq_O → tq_S → Prop) (a1 : Int32) (a2 : Int64) (a4 : Int32) (a5 : Int32) (z : tq_S) : Prop := (((1024 : Int32) ≤ a5 → Q (.inl none) z) ∧ (¬ (1024 : Int32) ≤ a5 → ∀ v101 : Int32, v101 = ((a4 + a5) &&& (1023 : Int32)) → vp_in v101 1024 ∧ ((¬ (tq_al z 45 (Int32.toNatClampNeg v101)) = (0 : Int64) → vp_in v101 1024 ∧ ((¬ ((tq_al z 45 (Int32.toNatClampNeg v101)) &&& (262143 : Int64)) = (Int32.toInt64 a1) → ∀ v102 : Int32, v102 = a5 + (1 : Int32) → B12 v102 z) ∧ (((tq_al z 45 (Int32.toNatClampNeg v101)) &&& (262143 : Int64)) = (Int32.toInt64 a1) → wc_X10_add_75 Q a2 v101 z))) ∧ ((tq_al z 45 (Int32.toNatClampNeg v101)) = (0 : Int64) → wc_X10_add_43 Q a1 a2 v101 z))))
def wc_X10_add_12 (Q : tq_O → tq_S → Prop) (a1 : Int32) (a2 : Int64) (a4 : Int32) (a5 : Int32) (z : tq_S) : Prop := tq_lp (σ := Int32 × tq_S) (fun B s => wb_X10_add_12 (fun b5 z => B (b5, z)) Q a1 a2 a4 s.1 s.2) (a5, z)
theorem ab_X10_add_12 {K : Nat × (Nat → Int32)} {x : Nat} {Q : tq_O → tq_S → Prop} {B12 : Int32 → tq_S → Prop} {a1 : Int32} {a2 : Int64} {a4 : Int32} {a5 : Int32} {z : tq_S} (hB12 : ∀ (b5 : Int32) (z : tq_S), B12 b5 z → tq_T K 0 x mm_X10_add 12 [.ref 42, .int a1, .long a2, .null, .int a4, .int b5, .null] [] z Q) (h : wb_X10_add_12 B12 Q a1 a2 a4 a5 z) : tq_T K 0 x mm_X10_add 12 [.ref 42, .int a1, .long a2, .null, .int a4, .int a5, .null] [] z Q := by
  unfold wb_X10_add_12 at h
  refine tq_s_iload (i := 5) (by decide +kernel) rfl ?_
  refine tq_k_si (n := 1024) (v := (1024 : Int32)) (by decide +kernel) ks_1024 ?_
  refine tq_icmp_ge (off := 79) (tgt := 96) (by decide +kernel) (by decide +kernel) (fun hc => ?_) (fun hc => ?_)
  · replace h := h.1 hc
    exact tq_ret_v (st := []) (by decide +kernel) rfl h
  · replace h := h.2 hc
    refine tq_s_iload (i := 4) (by decide +kernel) rfl ?_
    refine tq_s_iload (i := 5) (by decide +kernel) rfl ?_
    refine tq_s_iadd (by decide +kernel) ?_
    refine tq_k_si (n := 1023) (v := (1023 : Int32)) (by decide +kernel) ks_1023 ?_
    refine tq_s_iand (by decide +kernel) ?_
    refine tq_g_istore (i := 6) (fun v101 => [.ref 42, .int a1, .long a2, .null, .int a4, .int a5, .int v101]) (by decide +kernel) (by decide) (fun _ => rfl) (fun v101 ev101 => ?_)
    replace h := h v101 ev101
    refine tq_s_aload_n (kk := 0) (by decide +kernel) rfl ?_
    refine fg_10_20_42 rfl (by decide +kernel) ?_
    refine tq_s_iload (i := 6) (by decide +kernel) rfl ?_
    refine tq_s_lald (by decide +kernel) sh_45 h.1 ?_
    replace h := h.2
    refine tq_k_lc (n := 0) (v := (0 : Int64)) (by decide +kernel) (by decide +kernel) ?_
    refine tq_lcmp_ne (off := 18) (tgt := 58) (by decide +kernel) (by decide +kernel) (by decide +kernel) (fun hc => ?_) (fun hc => ?_)
    · replace h := h.1 hc
      refine tq_s_aload_n (kk := 0) (by decide +kernel) rfl ?_
      refine fg_10_20_42 rfl (by decide +kernel) ?_
      refine tq_s_iload (i := 6) (by decide +kernel) rfl ?_
      refine tq_s_lald (by decide +kernel) sh_45 h.1 ?_
      replace h := h.2
      refine tq_s_ldc2 (i := 70) (v := (262143 : Int64)) (by decide +kernel) (by decide +kernel) ?_
      refine tq_s_land (by decide +kernel) ?_
      refine tq_s_iload_n (kk := 1) (by decide +kernel) rfl ?_
      refine tq_s_i2l (by decide +kernel) ?_
      refine tq_lcmp_ne (off := 18) (tgt := 90) (by decide +kernel) (by decide +kernel) (by decide +kernel) (fun hc => ?_) (fun hc => ?_)
      · replace h := h.1 hc
        refine tq_g_iinc (i := 5) (fun v102 => [.ref 42, .int a1, .long a2, .null, .int a4, .int v102, .int v101]) (by decide +kernel) rfl (1 : Int32) kc_1 (fun _ => rfl) (fun v102 ev102 => ?_)
        replace h := h v102 ev102
        refine tq_s_goto (off := -81) (tgt := 12) (by decide +kernel) (by decide +kernel) ?_
        exact tq_to (tq_lk1 (tq_lk1 (tq_lk1 (tq_lk1 (tq_lk1 (tq_lk1 (tq_ld1 tq_l0))))))) (hB12 _ _ h)
      · replace h := h.2 hc
        exact tq_to (tq_lk1 (tq_ld1 (tq_lk1 (tq_lk1 (tq_ld1 (tq_ld1 (tq_lk1 tq_l0))))))) (ac_X10_add_75 h)
    · replace h := h.2 hc
      exact tq_to (tq_lk1 (tq_lk1 (tq_lk1 (tq_lk1 (tq_ld1 (tq_ld1 (tq_lk1 tq_l0))))))) (ac_X10_add_43 h)
theorem ac_X10_add_12 {K : Nat × (Nat → Int32)} {x : Nat} {Q : tq_O → tq_S → Prop} {a1 : Int32} {a2 : Int64} {a4 : Int32} {a5 : Int32} {z : tq_S} (h : wc_X10_add_12 Q a1 a2 a4 a5 z) : tq_T K 0 x mm_X10_add 12 [.ref 42, .int a1, .long a2, .null, .int a4, .int a5, .null] [] z Q :=
  tq_lp_T (σ := Int32 × tq_S) (s := (a5, z)) (G := fun s => tq_T K 0 x mm_X10_add 12 [.ref 42, .int a1, .long a2, .null, .int a4, .int s.1, .null] [] s.2 Q) (fun B hB s h => ab_X10_add_12 (fun b5 z h => hB (b5, z) h) h) h
def wm_X10_add (a1 : Int32) (a2 : Int64) (z : tq_S) (Q : tq_O → tq_S → Prop) : Prop := ∀ v1 : Int32, v1 = ((Int32.toUInt32 (a1 * (-1640531535 : Int32))) >>> ((Int32.toUInt32 (22 : Int32)) &&& Int32.toUInt32 31)).toInt32 → wc_X10_add_12 Q a1 a2 v1 (0 : Int32) z
theorem am_X10_add {K : Nat × (Nat → Int32)} {x : Nat} {z : tq_S} {Q : tq_O → tq_S → Prop} {a1 : Int32} {a2 : Int64} (h : wm_X10_add a1 a2 z Q) : tq_M K 0 x mm_X10_add [.ref 42, .int a1, .long a2] z Q := by
  unfold wm_X10_add at h
  refine tq_enter (L := [.ref 42, .int a1, .long a2, .null, .null, .null, .null]) mf_X10_add.1 rfl rfl (Nat.le_of_ble_eq_true rfl) ?_
  refine tq_s_iload_n (kk := 1) (by decide +kernel) rfl ?_
  refine tq_s_ldc (i := 77) (v := (-1640531535 : Int32)) (by decide +kernel) (by decide +kernel) ?_
  refine tq_s_imul (by decide +kernel) ?_
  refine tq_k_bi (n := 22) (v := (22 : Int32)) (by decide +kernel) kb_22 ?_
  refine tq_s_iushr (by decide +kernel) ?_
  refine tq_g_istore (i := 4) (fun v1 => [.ref 42, .int a1, .long a2, .null, .int v1, .null, .null]) (by decide +kernel) (by decide) (fun _ => rfl) (fun v1 ev1 => ?_)
  replace h := h v1 ev1
  refine tq_k_ic (n := 0) (v := (0 : Int32)) (by decide +kernel) kc_0 ?_
  refine tq_s_istore (i := 5) (L9 := [.ref 42, .int a1, .long a2, .null, .int v1, .int (0 : Int32), .null]) (by decide +kernel) (by decide) rfl ?_
  exact ac_X10_add_12 h
def wc_X10_mateOf_77 (B16 : Int32 → Int32 → tq_S → Prop) (Q : tq_O → tq_S → Prop) (a0 : Int32) (a1 : Int32) (a2 : Int32) (a3 : Int32) (a4 : Int32) (a5 : Int32) (a6 : Int32) (z : tq_S) : Prop := ((¬ a4 = 0 → ∀ v101 : Int32, v101 = a5 + (1 : Int32) → B16 a4 v101 z) ∧ (a4 = 0 → Q (.inl (some (.int a6))) z))
theorem ac_X10_mateOf_77 {K : Nat × (Nat → Int32)} {x : Nat} {Q : tq_O → tq_S → Prop} {B16 : Int32 → Int32 → tq_S → Prop} {a0 : Int32} {a1 : Int32} {a2 : Int32} {a3 : Int32} {a4 : Int32} {a5 : Int32} {a6 : Int32} {z : tq_S} (hB16 : ∀ (b4 : Int32) (b5 : Int32) (z : tq_S), B16 b4 b5 z → tq_T K 0 x mm_X10_mateOf 16 [.int a0, .int a1, .int a2, .int a3, .int b4, .int b5, .null, .null] [] z Q) (h : wc_X10_mateOf_77 B16 Q a0 a1 a2 a3 a4 a5 a6 z) : tq_T K 0 x mm_X10_mateOf 77 [.int a0, .int a1, .int a2, .int a3, .int a4, .int a5, .int a6, .null] [] z Q := by
  unfold wc_X10_mateOf_77 at h
  refine tq_s_iload (i := 4) (by decide +kernel) rfl ?_
  refine tq_if_ne (off := 6) (tgt := 85) (by decide +kernel) (by decide +kernel) (fun hc => ?_) (fun hc => ?_)
  · replace h := h.1 hc
    refine tq_g_iinc (i := 5) (fun v101 => [.int a0, .int a1, .int a2, .int a3, .int a4, .int v101, .int a6, .null]) (by decide +kernel) rfl (1 : Int32) kc_1 (fun _ => rfl) (fun v101 ev101 => ?_)
    replace h := h v101 ev101
    refine tq_s_goto (off := -72) (tgt := 16) (by decide +kernel) (by decide +kernel) ?_
    exact tq_to (tq_lk1 (tq_lk1 (tq_lk1 (tq_lk1 (tq_lk1 (tq_lk1 (tq_ld1 (tq_lk1 tq_l0)))))))) (hB16 _ _ _ h)
  · replace h := h.2 hc
    refine tq_s_iload (i := 6) (by decide +kernel) rfl ?_
    exact tq_ret_i (st := []) (by decide +kernel) rfl h
def wc_X10_mateOf_74 (B16 : Int32 → Int32 → tq_S → Prop) (Q : tq_O → tq_S → Prop) (a0 : Int32) (a1 : Int32) (a2 : Int32) (a3 : Int32) (a5 : Int32) (a6 : Int32) (s0 : Int32) (s1 : Int32) (z : tq_S) : Prop := ∀ v101 : Int32, v101 = (s1 + s0) → wc_X10_mateOf_77 B16 Q a0 a1 a2 a3 v101 a5 a6 z
theorem ac_X10_mateOf_74 {K : Nat × (Nat → Int32)} {x : Nat} {Q : tq_O → tq_S → Prop} {B16 : Int32 → Int32 → tq_S → Prop} {a0 : Int32} {a1 : Int32} {a2 : Int32} {a3 : Int32} {a5 : Int32} {a6 : Int32} {s0 : Int32} {s1 : Int32} {z : tq_S} (hB16 : ∀ (b4 : Int32) (b5 : Int32) (z : tq_S), B16 b4 b5 z → tq_T K 0 x mm_X10_mateOf 16 [.int a0, .int a1, .int a2, .int a3, .int b4, .int b5, .null, .null] [] z Q) (h : wc_X10_mateOf_74 B16 Q a0 a1 a2 a3 a5 a6 s0 s1 z) : tq_T K 0 x mm_X10_mateOf 74 [.int a0, .int a1, .int a2, .int a3, .null, .int a5, .int a6, .null] [.int s0, .int s1] z Q := by
  unfold wc_X10_mateOf_74 at h
  refine tq_s_iadd (by decide +kernel) ?_
  refine tq_g_istore (i := 4) (fun v101 => [.int a0, .int a1, .int a2, .int a3, .int v101, .int a5, .int a6, .null]) (by decide +kernel) (by decide) (fun _ => rfl) (fun v101 ev101 => ?_)
  replace h := h v101 ev101
  exact ac_X10_mateOf_77 hB16 h
def wb_X10_mateOf_16 (B16 : Int32 → Int32 → tq_S → Prop) (Q : tq_O → tq_S → Prop) (a0 : Int32) (a1 : Int32) (a2 : Int32) (a3 : Int32) (a4 : Int32) (a5 : Int32) (z : tq_S) : Prop := (((8 : Int32) < a5 → Q (.inl (some (.int a1))) z) ∧ (¬ (8 : Int32) < a5 → ∀ v101 : Int32, v101 = (a1 + (a2 * a5)) → ((v101 < 0 → Q (.inl (some (.int a1))) z) ∧ (¬ v101 < 0 → ((v101 ≤ (8 : Int32) → ∀ v102 : Int32, v102 = (((Int32.toUInt32 a0) >>> ((Int32.toUInt32 ((2 : Int32) * v101)) &&& Int32.toUInt32 31)).toInt32 &&& (3 : Int32)) → ((v102 = 0 → wc_X10_mateOf_77 B16 Q a0 a1 a2 a3 a4 a5 v101 z) ∧ (¬ v102 = 0 → ((¬ v102 = a3 → wc_X10_mateOf_74 B16 Q a0 a1 a2 a3 a5 v101 (-1 : Int32) a4 z) ∧ (v102 = a3 → wc_X10_mateOf_74 B16 Q a0 a1 a2 a3 a5 v101 (1 : Int32) a4 z))))) ∧ (¬ v101 ≤ (8 : Int32) → Q (.inl (some (.int a1))) z))))))
def wc_X10_mateOf_16 (Q : tq_O → tq_S → Prop) (a0 : Int32) (a1 : Int32) (a2 : Int32) (a3 : Int32) (a4 : Int32) (a5 : Int32) (z : tq_S) : Prop := tq_lp (σ := Int32 × Int32 × tq_S) (fun B s => wb_X10_mateOf_16 (fun b4 b5 z => B (b4, b5, z)) Q a0 a1 a2 a3 s.1 s.2.1 s.2.2) (a4, a5, z)
theorem ab_X10_mateOf_16 {K : Nat × (Nat → Int32)} {x : Nat} {Q : tq_O → tq_S → Prop} {B16 : Int32 → Int32 → tq_S → Prop} {a0 : Int32} {a1 : Int32} {a2 : Int32} {a3 : Int32} {a4 : Int32} {a5 : Int32} {z : tq_S} (hB16 : ∀ (b4 : Int32) (b5 : Int32) (z : tq_S), B16 b4 b5 z → tq_T K 0 x mm_X10_mateOf 16 [.int a0, .int a1, .int a2, .int a3, .int b4, .int b5, .null, .null] [] z Q) (h : wb_X10_mateOf_16 B16 Q a0 a1 a2 a3 a4 a5 z) : tq_T K 0 x mm_X10_mateOf 16 [.int a0, .int a1, .int a2, .int a3, .int a4, .int a5, .null, .null] [] z Q := by
  unfold wb_X10_mateOf_16 at h
  refine tq_s_iload (i := 5) (by decide +kernel) rfl ?_
  refine tq_k_bi (n := 8) (v := (8 : Int32)) (by decide +kernel) kb_8 ?_
  refine tq_icmp_gt (off := 71) (tgt := 91) (by decide +kernel) (by decide +kernel) (fun hc => ?_) (fun hc => ?_)
  · replace h := h.1 hc
    refine tq_s_iload_n (kk := 1) (by decide +kernel) rfl ?_
    exact tq_ret_i (st := []) (by decide +kernel) rfl h
  · replace h := h.2 hc
    refine tq_s_iload_n (kk := 1) (by decide +kernel) rfl ?_
    refine tq_s_iload_n (kk := 2) (by decide +kernel) rfl ?_
    refine tq_s_iload (i := 5) (by decide +kernel) rfl ?_
    refine tq_s_imul (by decide +kernel) ?_
    refine tq_s_iadd (by decide +kernel) ?_
    refine tq_g_istore (i := 6) (fun v101 => [.int a0, .int a1, .int a2, .int a3, .int a4, .int a5, .int v101, .null]) (by decide +kernel) (by decide) (fun _ => rfl) (fun v101 ev101 => ?_)
    replace h := h v101 ev101
    refine tq_s_iload (i := 6) (by decide +kernel) rfl ?_
    refine tq_if_lt (off := 58) (tgt := 91) (by decide +kernel) (by decide +kernel) (fun hc => ?_) (fun hc => ?_)
    · replace h := h.1 hc
      refine tq_s_iload_n (kk := 1) (by decide +kernel) rfl ?_
      exact tq_ret_i (st := []) (by decide +kernel) rfl h
    · replace h := h.2 hc
      refine tq_s_iload (i := 6) (by decide +kernel) rfl ?_
      refine tq_k_bi (n := 8) (v := (8 : Int32)) (by decide +kernel) kb_8 ?_
      refine tq_icmp_le (off := 6) (tgt := 46) (by decide +kernel) (by decide +kernel) (fun hc => ?_) (fun hc => ?_)
      · replace h := h.1 hc
        refine tq_s_iload_n (kk := 0) (by decide +kernel) rfl ?_
        refine tq_k_ic (n := 2) (v := (2 : Int32)) (by decide +kernel) kc_2 ?_
        refine tq_s_iload (i := 6) (by decide +kernel) rfl ?_
        refine tq_s_imul (by decide +kernel) ?_
        refine tq_s_iushr (by decide +kernel) ?_
        refine tq_k_ic (n := 3) (v := (3 : Int32)) (by decide +kernel) kc_3 ?_
        refine tq_s_iand (by decide +kernel) ?_
        refine tq_g_istore (i := 7) (fun v102 => [.int a0, .int a1, .int a2, .int a3, .int a4, .int a5, .int v101, .int v102]) (by decide +kernel) (by decide) (fun _ => rfl) (fun v102 ev102 => ?_)
        replace h := h v102 ev102
        refine tq_s_iload (i := 7) (by decide +kernel) rfl ?_
        refine tq_if_eq (off := 19) (tgt := 77) (by decide +kernel) (by decide +kernel) (fun hc => ?_) (fun hc => ?_)
        · replace h := h.1 hc
          exact tq_to (tq_lk1 (tq_lk1 (tq_lk1 (tq_lk1 (tq_lk1 (tq_lk1 (tq_lk1 (tq_ld1 tq_l0)))))))) (ac_X10_mateOf_77 hB16 h)
        · replace h := h.2 hc
          refine tq_s_iload (i := 4) (by decide +kernel) rfl ?_
          refine tq_s_iload (i := 7) (by decide +kernel) rfl ?_
          refine tq_s_iload_n (kk := 3) (by decide +kernel) rfl ?_
          refine tq_icmp_ne (off := 7) (tgt := 73) (by decide +kernel) (by decide +kernel) (fun hc => ?_) (fun hc => ?_)
          · replace h := h.1 hc
            refine tq_k_ic (n := -1) (v := (-1 : Int32)) (by decide +kernel) kc_m1 ?_
            exact tq_to (tq_lk1 (tq_lk1 (tq_lk1 (tq_lk1 (tq_ld1 (tq_lk1 (tq_lk1 (tq_ld1 tq_l0)))))))) (ac_X10_mateOf_74 hB16 h)
          · replace h := h.2 hc
            refine tq_k_ic (n := 1) (v := (1 : Int32)) (by decide +kernel) kc_1 ?_
            refine tq_s_goto (off := 4) (tgt := 74) (by decide +kernel) (by decide +kernel) ?_
            exact tq_to (tq_lk1 (tq_lk1 (tq_lk1 (tq_lk1 (tq_ld1 (tq_lk1 (tq_lk1 (tq_ld1 tq_l0)))))))) (ac_X10_mateOf_74 hB16 h)
      · replace h := h.2 hc
        refine tq_s_goto (off := 48) (tgt := 91) (by decide +kernel) (by decide +kernel) ?_
        refine tq_s_iload_n (kk := 1) (by decide +kernel) rfl ?_
        exact tq_ret_i (st := []) (by decide +kernel) rfl h
theorem ac_X10_mateOf_16 {K : Nat × (Nat → Int32)} {x : Nat} {Q : tq_O → tq_S → Prop} {a0 : Int32} {a1 : Int32} {a2 : Int32} {a3 : Int32} {a4 : Int32} {a5 : Int32} {z : tq_S} (h : wc_X10_mateOf_16 Q a0 a1 a2 a3 a4 a5 z) : tq_T K 0 x mm_X10_mateOf 16 [.int a0, .int a1, .int a2, .int a3, .int a4, .int a5, .null, .null] [] z Q :=
  tq_lp_T (σ := Int32 × Int32 × tq_S) (s := (a4, a5, z)) (G := fun s => tq_T K 0 x mm_X10_mateOf 16 [.int a0, .int a1, .int a2, .int a3, .int s.1, .int s.2.1, .null, .null] [] s.2.2 Q) (fun B hB s h => ab_X10_mateOf_16 (fun b4 b5 z h => hB (b4, b5, z) h) h) h
def wc_X10_mateOf_9 (Q : tq_O → tq_S → Prop) (a0 : Int32) (a1 : Int32) (a2 : Int32) (s0 : Int32) (z : tq_S) : Prop := wc_X10_mateOf_16 Q a0 a1 a2 s0 (1 : Int32) (1 : Int32) z
theorem ac_X10_mateOf_9 {K : Nat × (Nat → Int32)} {x : Nat} {Q : tq_O → tq_S → Prop} {a0 : Int32} {a1 : Int32} {a2 : Int32} {s0 : Int32} {z : tq_S} (h : wc_X10_mateOf_9 Q a0 a1 a2 s0 z) : tq_T K 0 x mm_X10_mateOf 9 [.int a0, .int a1, .int a2, .null, .null, .null, .null, .null] [.int s0] z Q := by
  unfold wc_X10_mateOf_9 at h
  refine tq_s_istore_n (kk := 3) (L9 := [.int a0, .int a1, .int a2, .int s0, .null, .null, .null, .null]) (by decide +kernel) (by decide) rfl ?_
  refine tq_k_ic (n := 1) (v := (1 : Int32)) (by decide +kernel) kc_1 ?_
  refine tq_s_istore (i := 4) (L9 := [.int a0, .int a1, .int a2, .int s0, .int (1 : Int32), .null, .null, .null]) (by decide +kernel) (by decide) rfl ?_
  refine tq_k_ic (n := 1) (v := (1 : Int32)) (by decide +kernel) kc_1 ?_
  refine tq_s_istore (i := 5) (L9 := [.int a0, .int a1, .int a2, .int s0, .int (1 : Int32), .int (1 : Int32), .null, .null]) (by decide +kernel) (by decide) rfl ?_
  exact ac_X10_mateOf_16 h
def wm_X10_mateOf (a0 : Int32) (a1 : Int32) (a2 : Int32) (z : tq_S) (Q : tq_O → tq_S → Prop) : Prop := ((a2 ≤ 0 → wc_X10_mateOf_9 Q a0 a1 a2 (2 : Int32) z) ∧ (¬ a2 ≤ 0 → wc_X10_mateOf_9 Q a0 a1 a2 (1 : Int32) z))
theorem am_X10_mateOf {K : Nat × (Nat → Int32)} {x : Nat} {z : tq_S} {Q : tq_O → tq_S → Prop} {a0 : Int32} {a1 : Int32} {a2 : Int32} (h : wm_X10_mateOf a0 a1 a2 z Q) : tq_M K 0 x mm_X10_mateOf [.int a0, .int a1, .int a2] z Q := by
  unfold wm_X10_mateOf at h
  refine tq_enter (L := [.int a0, .int a1, .int a2, .null, .null, .null, .null, .null]) mf_X10_mateOf.1 rfl rfl (Nat.le_of_ble_eq_true rfl) ?_
  refine tq_s_iload_n (kk := 2) (by decide +kernel) rfl ?_
  refine tq_if_le (off := 7) (tgt := 8) (by decide +kernel) (by decide +kernel) (fun hc => ?_) (fun hc => ?_)
  · replace h := h.1 hc
    refine tq_k_ic (n := 2) (v := (2 : Int32)) (by decide +kernel) kc_2 ?_
    exact ac_X10_mateOf_9 h
  · replace h := h.2 hc
    refine tq_k_ic (n := 1) (v := (1 : Int32)) (by decide +kernel) kc_1 ?_
    refine tq_s_goto (off := 4) (tgt := 9) (by decide +kernel) (by decide +kernel) ?_
    exact ac_X10_mateOf_9 h
def wc_X10_join_71 (Q : tq_O → tq_S → Prop) (a1 : Int32) (a3 : Int32) (a5 : Int32) (a6 : Int64) (z : tq_S) : Prop := ((¬ a3 = (1 : Int32) → wm_X10_mateOf a5 a1 (-1 : Int32) z (tq_wi fun r102 z101 => wm_X10_add (a5 ^^^ ((3 : Int32) <<< (((2 : Int32) * r102) &&& 31))) a6 z101 (tq_wv fun z103 => Q (.inl none) z103))) ∧ (a3 = (1 : Int32) → wm_X10_mateOf a5 (a1 + (1 : Int32)) (1 : Int32) z (tq_wi fun r105 z104 => wm_X10_add (a5 ^^^ ((3 : Int32) <<< (((2 : Int32) * r105) &&& 31))) a6 z104 (tq_wv fun z106 => Q (.inl none) z106))))
theorem ac_X10_join_71 {K : Nat × (Nat → Int32)} {x : Nat} {Q : tq_O → tq_S → Prop} {a1 : Int32} {a3 : Int32} {a5 : Int32} {a6 : Int64} {z : tq_S} (h : wc_X10_join_71 Q a1 a3 a5 a6 z) : tq_T K 1 x mm_X10_join 71 [.ref 42, .int a1, .null, .int a3, .null, .int a5, .long a6, .null] [] z Q := by
  unfold wc_X10_join_71 at h
  refine tq_s_iload_n (kk := 3) (by decide +kernel) rfl ?_
  refine tq_k_ic (n := 1) (v := (1 : Int32)) (by decide +kernel) kc_1 ?_
  refine tq_icmp_ne (off := 28) (tgt := 101) (by decide +kernel) (by decide +kernel) (fun hc => ?_) (fun hc => ?_)
  · replace h := h.1 hc
    refine tq_s_aload_n (kk := 0) (by decide +kernel) rfl ?_
    refine tq_s_iload (i := 5) (by decide +kernel) rfl ?_
    refine tq_k_ic (n := 3) (v := (3 : Int32)) (by decide +kernel) kc_3 ?_
    refine tq_k_ic (n := 2) (v := (2 : Int32)) (by decide +kernel) kc_2 ?_
    refine tq_s_iload (i := 5) (by decide +kernel) rfl ?_
    refine tq_s_iload_n (kk := 1) (by decide +kernel) rfl ?_
    refine tq_k_ic (n := -1) (v := (-1 : Int32)) (by decide +kernel) kc_m1 ?_
    refine tq_callS (as := [.int a5, .int a1, .int (-1 : Int32)]) (st := [.int (2 : Int32), .int (3 : Int32), .int a5, .ref 42]) (d1 := 0) (x1 := 0) (x2 := x) (by decide +kernel) ln_10_86 mf_X10_mateOf rfl (by decide) np_X10_mateOf rfl (Nat.le_of_ble_eq_true rfl) (by decide) (Nat.zero_add _).symm (tq_M_mono (am_X10_mateOf h) ?_)
    refine tq_wi_e (fun r102 z101 h => ?_)
    refine tq_s_imul (by decide +kernel) ?_
    refine tq_s_ishl (by decide +kernel) ?_
    refine tq_s_ixor (by decide +kernel) ?_
    refine tq_s_lload (i := 6) (by decide +kernel) rfl ?_
    refine tq_callV (as := [.int (a5 ^^^ ((3 : Int32) <<< (((2 : Int32) * r102) &&& 31))), .long a6]) (st := []) (d1 := 0) (x1 := 0) (x2 := x) (by decide +kernel) ln_10_54 mf_X10_add rfl sh_42 rfl (by decide) np_X10_add rfl (Nat.le_of_ble_eq_true rfl) (by decide) (Nat.zero_add _).symm (tq_M_mono (am_X10_add h) ?_)
    refine tq_wv_e (fun z103 h => ?_)
    exact tq_ret_v (st := []) (by decide +kernel) rfl h
  · replace h := h.2 hc
    refine tq_s_aload_n (kk := 0) (by decide +kernel) rfl ?_
    refine tq_s_iload (i := 5) (by decide +kernel) rfl ?_
    refine tq_k_ic (n := 3) (v := (3 : Int32)) (by decide +kernel) kc_3 ?_
    refine tq_k_ic (n := 2) (v := (2 : Int32)) (by decide +kernel) kc_2 ?_
    refine tq_s_iload (i := 5) (by decide +kernel) rfl ?_
    refine tq_s_iload_n (kk := 1) (by decide +kernel) rfl ?_
    refine tq_k_ic (n := 1) (v := (1 : Int32)) (by decide +kernel) kc_1 ?_
    refine tq_s_iadd (by decide +kernel) ?_
    refine tq_k_ic (n := 1) (v := (1 : Int32)) (by decide +kernel) kc_1 ?_
    refine tq_callS (as := [.int a5, .int (a1 + (1 : Int32)), .int (1 : Int32)]) (st := [.int (2 : Int32), .int (3 : Int32), .int a5, .ref 42]) (d1 := 0) (x1 := 0) (x2 := x) (by decide +kernel) ln_10_86 mf_X10_mateOf rfl (by decide) np_X10_mateOf rfl (Nat.le_of_ble_eq_true rfl) (by decide) (Nat.zero_add _).symm (tq_M_mono (am_X10_mateOf h) ?_)
    refine tq_wi_e (fun r105 z104 h => ?_)
    refine tq_s_imul (by decide +kernel) ?_
    refine tq_s_ishl (by decide +kernel) ?_
    refine tq_s_ixor (by decide +kernel) ?_
    refine tq_s_lload (i := 6) (by decide +kernel) rfl ?_
    refine tq_callV (as := [.int (a5 ^^^ ((3 : Int32) <<< (((2 : Int32) * r105) &&& 31))), .long a6]) (st := []) (d1 := 0) (x1 := 0) (x2 := x) (by decide +kernel) ln_10_54 mf_X10_add rfl sh_42 rfl (by decide) np_X10_add rfl (Nat.le_of_ble_eq_true rfl) (by decide) (Nat.zero_add _).symm (tq_M_mono (am_X10_add h) ?_)
    refine tq_wv_e (fun z106 h => ?_)
    refine tq_s_goto (off := 23) (tgt := 121) (by decide +kernel) (by decide +kernel) ?_
    exact tq_ret_v (st := []) (by decide +kernel) rfl h
def wc_X10_join_49 (Q : tq_O → tq_S → Prop) (a1 : Int32) (a3 : Int32) (a4 : Int32) (a5 : Int32) (a6 : Int64) (z : tq_S) : Prop := ((¬ a3 = (2 : Int32) → wc_X10_join_71 Q a1 a3 a5 a6 z) ∧ (a3 = (2 : Int32) → ((¬ a4 = (1 : Int32) → wc_X10_join_71 Q a1 a3 a5 a6 z) ∧ (a4 = (1 : Int32) → wm_X10_add a5 a6 z (tq_wv fun z101 => Q (.inl none) z101)))))
theorem ac_X10_join_49 {K : Nat × (Nat → Int32)} {x : Nat} {Q : tq_O → tq_S → Prop} {a1 : Int32} {a3 : Int32} {a4 : Int32} {a5 : Int32} {a6 : Int64} {z : tq_S} (h : wc_X10_join_49 Q a1 a3 a4 a5 a6 z) : tq_T K 1 x mm_X10_join 49 [.ref 42, .int a1, .null, .int a3, .int a4, .int a5, .long a6, .null] [] z Q := by
  unfold wc_X10_join_49 at h
  refine tq_s_iload_n (kk := 3) (by decide +kernel) rfl ?_
  refine tq_k_ic (n := 2) (v := (2 : Int32)) (by decide +kernel) kc_2 ?_
  refine tq_icmp_ne (off := 20) (tgt := 71) (by decide +kernel) (by decide +kernel) (fun hc => ?_) (fun hc => ?_)
  · replace h := h.1 hc
    exact tq_to (tq_lk1 (tq_lk1 (tq_lk1 (tq_lk1 (tq_ld1 (tq_lk1 (tq_lk1 (tq_lk1 tq_l0)))))))) (ac_X10_join_71 h)
  · replace h := h.2 hc
    refine tq_s_iload (i := 4) (by decide +kernel) rfl ?_
    refine tq_k_ic (n := 1) (v := (1 : Int32)) (by decide +kernel) kc_1 ?_
    refine tq_icmp_ne (off := 14) (tgt := 71) (by decide +kernel) (by decide +kernel) (fun hc => ?_) (fun hc => ?_)
    · replace h := h.1 hc
      exact tq_to (tq_lk1 (tq_lk1 (tq_lk1 (tq_lk1 (tq_ld1 (tq_lk1 (tq_lk1 (tq_lk1 tq_l0)))))))) (ac_X10_join_71 h)
    · replace h := h.2 hc
      refine tq_s_aload_n (kk := 0) (by decide +kernel) rfl ?_
      refine tq_s_iload (i := 5) (by decide +kernel) rfl ?_
      refine tq_s_lload (i := 6) (by decide +kernel) rfl ?_
      refine tq_callV (as := [.int a5, .long a6]) (st := []) (d1 := 0) (x1 := 0) (x2 := x) (by decide +kernel) ln_10_54 mf_X10_add rfl sh_42 rfl (by decide) np_X10_add rfl (Nat.le_of_ble_eq_true rfl) (by decide) (Nat.zero_add _).symm (tq_M_mono (am_X10_add h) ?_)
      refine tq_wv_e (fun z101 h => ?_)
      refine tq_s_goto (off := 53) (tgt := 121) (by decide +kernel) (by decide +kernel) ?_
      exact tq_ret_v (st := []) (by decide +kernel) rfl h
def wm_X10_join (a1 : Int32) (a2 : Int32) (a3 : Int32) (a4 : Int32) (a5 : Int32) (a6 : Int64) (z : tq_S) (Q : tq_O → tq_S → Prop) : Prop := ((¬ a3 = (1 : Int32) → wc_X10_join_49 Q a1 a3 a4 a5 a6 z) ∧ (a3 = (1 : Int32) → ((¬ a4 = (2 : Int32) → wc_X10_join_49 Q a1 a3 a4 a5 a6 z) ∧ (a4 = (2 : Int32) → ((¬ a5 = 0 → Q (.inl none) z) ∧ (a5 = 0 → ((¬ ((Int64.toUInt64 (tq_fl z 67)) >>> ((Int32.toInt64 (((8 : Int32) * a2) + a1)).toUInt64 &&& Int64.toUInt64 63)).toInt64 = (1 : Int64) → Q (.inl none) z) ∧ (((Int64.toUInt64 (tq_fl z 67)) >>> ((Int32.toInt64 (((8 : Int32) * a2) + a1)).toUInt64 &&& Int64.toUInt64 63)).toInt64 = (1 : Int64) → ∀ z1 : tq_S, z1 = tq_sfl z 2692 ((tq_fl z 2692) + a6) → Q (.inl none) z1))))))))
theorem am_X10_join {K : Nat × (Nat → Int32)} {x : Nat} {z : tq_S} {Q : tq_O → tq_S → Prop} {a1 : Int32} {a2 : Int32} {a3 : Int32} {a4 : Int32} {a5 : Int32} {a6 : Int64} (h : wm_X10_join a1 a2 a3 a4 a5 a6 z Q) : tq_M K 1 x mm_X10_join [.ref 42, .int a1, .int a2, .int a3, .int a4, .int a5, .long a6] z Q := by
  unfold wm_X10_join at h
  refine tq_enter (L := [.ref 42, .int a1, .int a2, .int a3, .int a4, .int a5, .long a6, .null]) mf_X10_join.1 rfl rfl (Nat.le_of_ble_eq_true rfl) ?_
  refine tq_s_iload_n (kk := 3) (by decide +kernel) rfl ?_
  refine tq_k_ic (n := 1) (v := (1 : Int32)) (by decide +kernel) kc_1 ?_
  refine tq_icmp_ne (off := 47) (tgt := 49) (by decide +kernel) (by decide +kernel) (fun hc => ?_) (fun hc => ?_)
  · replace h := h.1 hc
    exact tq_to (tq_lk1 (tq_lk1 (tq_ld1 (tq_lk1 (tq_lk1 (tq_lk1 (tq_lk1 (tq_lk1 tq_l0)))))))) (ac_X10_join_49 h)
  · replace h := h.2 hc
    refine tq_s_iload (i := 4) (by decide +kernel) rfl ?_
    refine tq_k_ic (n := 2) (v := (2 : Int32)) (by decide +kernel) kc_2 ?_
    refine tq_icmp_ne (off := 41) (tgt := 49) (by decide +kernel) (by decide +kernel) (fun hc => ?_) (fun hc => ?_)
    · replace h := h.1 hc
      exact tq_to (tq_lk1 (tq_lk1 (tq_ld1 (tq_lk1 (tq_lk1 (tq_lk1 (tq_lk1 (tq_lk1 tq_l0)))))))) (ac_X10_join_49 h)
    · replace h := h.2 hc
      refine tq_s_iload (i := 5) (by decide +kernel) rfl ?_
      refine tq_if_ne (off := 108) (tgt := 121) (by decide +kernel) (by decide +kernel) (fun hc => ?_) (fun hc => ?_)
      · replace h := h.1 hc
        exact tq_ret_v (st := []) (by decide +kernel) rfl h
      · replace h := h.2 hc
        refine tq_s_aload_n (kk := 0) (by decide +kernel) rfl ?_
        refine fg_10_9_42 rfl (by decide +kernel) ?_
        refine fg_10_35_1 rfl (by decide +kernel) ?_
        refine tq_k_bi (n := 8) (v := (8 : Int32)) (by decide +kernel) kb_8 ?_
        refine tq_s_iload_n (kk := 2) (by decide +kernel) rfl ?_
        refine tq_s_imul (by decide +kernel) ?_
        refine tq_s_iload_n (kk := 1) (by decide +kernel) rfl ?_
        refine tq_s_iadd (by decide +kernel) ?_
        refine tq_s_lushr (by decide +kernel) ?_
        refine tq_k_lc (n := 1) (v := (1 : Int64)) (by decide +kernel) (by decide +kernel) ?_
        refine tq_lcmp_ne (off := 89) (tgt := 121) (by decide +kernel) (by decide +kernel) (by decide +kernel) (fun hc => ?_) (fun hc => ?_)
        · replace h := h.1 hc
          exact tq_ret_v (st := []) (by decide +kernel) rfl h
        · replace h := h.2 hc
          refine tq_s_aload_n (kk := 0) (by decide +kernel) rfl ?_
          refine tq_s_dup (by decide +kernel) rfl ?_
          refine fg_10_58_42 rfl (by decide +kernel) ?_
          refine tq_s_lload (i := 6) (by decide +kernel) rfl ?_
          refine tq_s_ladd (by decide +kernel) ?_
          refine fp_10_58_42 rfl (by decide +kernel) (fun z1 ez1 => ?_)
          replace h := h z1 ez1
          refine tq_s_goto (off := 75) (tgt := 121) (by decide +kernel) (by decide +kernel) ?_
          exact tq_ret_v (st := []) (by decide +kernel) rfl h
def wc_X10_passCell_169 (Q : tq_O → tq_S → Prop) (a1 : Int32) (a4 : Int64) (a6 : Int32) (a7 : Int32) (a8 : Int32) (a10 : Int32) (z : tq_S) : Prop := ((a10 = 0 → Q (.inl none) z) ∧ (¬ a10 = 0 → wm_X10_add (a8 ||| ((a6 ||| a7) <<< ((((2 : Int32) * a1) + (2 : Int32)) &&& 31))) a4 z (tq_wv fun z101 => Q (.inl none) z101)))
theorem ac_X10_passCell_169 {K : Nat × (Nat → Int32)} {x : Nat} {Q : tq_O → tq_S → Prop} {a1 : Int32} {a4 : Int64} {a6 : Int32} {a7 : Int32} {a8 : Int32} {a10 : Int32} {z : tq_S} (h : wc_X10_passCell_169 Q a1 a4 a6 a7 a8 a10 z) : tq_T K 2 x mm_X10_passCell 169 [.ref 42, .int a1, .null, .null, .long a4, .null, .int a6, .int a7, .int a8, .null, .int a10] [] z Q := by
  unfold wc_X10_passCell_169 at h
  refine tq_s_iload (i := 10) (by decide +kernel) rfl ?_
  refine tq_if_eq (off := 40) (tgt := 211) (by decide +kernel) (by decide +kernel) (fun hc => ?_) (fun hc => ?_)
  · replace h := h.1 hc
    exact tq_ret_v (st := []) (by decide +kernel) rfl h
  · replace h := h.2 hc
    refine tq_s_aload_n (kk := 0) (by decide +kernel) rfl ?_
    refine tq_s_iload (i := 8) (by decide +kernel) rfl ?_
    refine tq_s_iload (i := 6) (by decide +kernel) rfl ?_
    refine tq_s_iload (i := 7) (by decide +kernel) rfl ?_
    refine tq_s_ior (by decide +kernel) ?_
    refine tq_k_ic (n := 2) (v := (2 : Int32)) (by decide +kernel) kc_2 ?_
    refine tq_s_iload_n (kk := 1) (by decide +kernel) rfl ?_
    refine tq_s_imul (by decide +kernel) ?_
    refine tq_k_ic (n := 2) (v := (2 : Int32)) (by decide +kernel) kc_2 ?_
    refine tq_s_iadd (by decide +kernel) ?_
    refine tq_s_ishl (by decide +kernel) ?_
    refine tq_s_ior (by decide +kernel) ?_
    refine tq_s_lload (i := 4) (by decide +kernel) rfl ?_
    refine tq_callV (as := [.int (a8 ||| ((a6 ||| a7) <<< ((((2 : Int32) * a1) + (2 : Int32)) &&& 31))), .long a4]) (st := []) (d1 := 0) (x1 := 0) (x2 := x) (by decide +kernel) ln_10_54 mf_X10_add rfl sh_42 rfl (by decide) np_X10_add rfl (Nat.le_of_ble_eq_true rfl) (by decide) (Nat.zero_add _).symm (tq_M_mono (am_X10_add h) ?_)
    refine tq_wv_e (fun z101 h => ?_)
    refine tq_s_goto (off := 17) (tgt := 211) (by decide +kernel) (by decide +kernel) ?_
    exact tq_ret_v (st := []) (by decide +kernel) rfl h
def wc_X10_passCell_146 (Q : tq_O → tq_S → Prop) (a1 : Int32) (a4 : Int64) (a6 : Int32) (a7 : Int32) (a8 : Int32) (a9 : Int32) (a10 : Int32) (z : tq_S) : Prop := ((a9 = 0 → wc_X10_passCell_169 Q a1 a4 a6 a7 a8 a10 z) ∧ (¬ a9 = 0 → wm_X10_add (a8 ||| ((a6 ||| a7) <<< (((2 : Int32) * a1) &&& 31))) a4 z (tq_wv fun z101 => wc_X10_passCell_169 Q a1 a4 a6 a7 a8 a10 z101)))
theorem ac_X10_passCell_146 {K : Nat × (Nat → Int32)} {x : Nat} {Q : tq_O → tq_S → Prop} {a1 : Int32} {a4 : Int64} {a6 : Int32} {a7 : Int32} {a8 : Int32} {a9 : Int32} {a10 : Int32} {z : tq_S} (h : wc_X10_passCell_146 Q a1 a4 a6 a7 a8 a9 a10 z) : tq_T K 2 x mm_X10_passCell 146 [.ref 42, .int a1, .null, .null, .long a4, .null, .int a6, .int a7, .int a8, .int a9, .int a10] [] z Q := by
  unfold wc_X10_passCell_146 at h
  refine tq_s_iload (i := 9) (by decide +kernel) rfl ?_
  refine tq_if_eq (off := 21) (tgt := 169) (by decide +kernel) (by decide +kernel) (fun hc => ?_) (fun hc => ?_)
  · replace h := h.1 hc
    exact tq_to (tq_lk1 (tq_lk1 (tq_lk1 (tq_lk1 (tq_lk1 (tq_lk1 (tq_lk1 (tq_lk1 (tq_lk1 (tq_ld1 (tq_lk1 tq_l0))))))))))) (ac_X10_passCell_169 h)
  · replace h := h.2 hc
    refine tq_s_aload_n (kk := 0) (by decide +kernel) rfl ?_
    refine tq_s_iload (i := 8) (by decide +kernel) rfl ?_
    refine tq_s_iload (i := 6) (by decide +kernel) rfl ?_
    refine tq_s_iload (i := 7) (by decide +kernel) rfl ?_
    refine tq_s_ior (by decide +kernel) ?_
    refine tq_k_ic (n := 2) (v := (2 : Int32)) (by decide +kernel) kc_2 ?_
    refine tq_s_iload_n (kk := 1) (by decide +kernel) rfl ?_
    refine tq_s_imul (by decide +kernel) ?_
    refine tq_s_ishl (by decide +kernel) ?_
    refine tq_s_ior (by decide +kernel) ?_
    refine tq_s_lload (i := 4) (by decide +kernel) rfl ?_
    refine tq_callV (as := [.int (a8 ||| ((a6 ||| a7) <<< (((2 : Int32) * a1) &&& 31))), .long a4]) (st := []) (d1 := 0) (x1 := 0) (x2 := x) (by decide +kernel) ln_10_54 mf_X10_add rfl sh_42 rfl (by decide) np_X10_add rfl (Nat.le_of_ble_eq_true rfl) (by decide) (Nat.zero_add _).symm (tq_M_mono (am_X10_add h) ?_)
    refine tq_wv_e (fun z101 h => ?_)
    exact tq_to (tq_lk1 (tq_lk1 (tq_lk1 (tq_lk1 (tq_lk1 (tq_lk1 (tq_lk1 (tq_lk1 (tq_lk1 (tq_ld1 (tq_lk1 tq_l0))))))))))) (ac_X10_passCell_169 h)
def wc_X10_passCell_136 (Q : tq_O → tq_S → Prop) (a1 : Int32) (a2 : Int32) (a4 : Int64) (a6 : Int32) (a7 : Int32) (a8 : Int32) (a9 : Int32) (a10 : Int32) (z : tq_S) : Prop := ((a6 = 0 → wc_X10_passCell_146 Q a1 a4 a6 a7 a8 a9 a10 z) ∧ (¬ a6 = 0 → ((¬ a7 = 0 → wm_X10_join a1 a2 a6 a7 a8 a4 z (tq_wv fun z101 => Q (.inl none) z101)) ∧ (a7 = 0 → wc_X10_passCell_146 Q a1 a4 a6 a7 a8 a9 a10 z))))
theorem ac_X10_passCell_136 {K : Nat × (Nat → Int32)} {x : Nat} {Q : tq_O → tq_S → Prop} {a1 : Int32} {a2 : Int32} {a4 : Int64} {a6 : Int32} {a7 : Int32} {a8 : Int32} {a9 : Int32} {a10 : Int32} {z : tq_S} (h : wc_X10_passCell_136 Q a1 a2 a4 a6 a7 a8 a9 a10 z) : tq_T K 2 x mm_X10_passCell 136 [.ref 42, .int a1, .int a2, .null, .long a4, .null, .int a6, .int a7, .int a8, .int a9, .int a10] [] z Q := by
  unfold wc_X10_passCell_136 at h
  refine tq_s_iload (i := 6) (by decide +kernel) rfl ?_
  refine tq_if_eq (off := 8) (tgt := 146) (by decide +kernel) (by decide +kernel) (fun hc => ?_) (fun hc => ?_)
  · replace h := h.1 hc
    exact tq_to (tq_lk1 (tq_lk1 (tq_ld1 (tq_lk1 (tq_lk1 (tq_lk1 (tq_lk1 (tq_lk1 (tq_lk1 (tq_lk1 (tq_lk1 tq_l0))))))))))) (ac_X10_passCell_146 h)
  · replace h := h.2 hc
    refine tq_s_iload (i := 7) (by decide +kernel) rfl ?_
    refine tq_if_ne (off := 54) (tgt := 197) (by decide +kernel) (by decide +kernel) (fun hc => ?_) (fun hc => ?_)
    · replace h := h.1 hc
      refine tq_s_aload_n (kk := 0) (by decide +kernel) rfl ?_
      refine tq_s_iload_n (kk := 1) (by decide +kernel) rfl ?_
      refine tq_s_iload_n (kk := 2) (by decide +kernel) rfl ?_
      refine tq_s_iload (i := 6) (by decide +kernel) rfl ?_
      refine tq_s_iload (i := 7) (by decide +kernel) rfl ?_
      refine tq_s_iload (i := 8) (by decide +kernel) rfl ?_
      refine tq_s_lload (i := 4) (by decide +kernel) rfl ?_
      refine tq_callV (as := [.int a1, .int a2, .int a6, .int a7, .int a8, .long a4]) (st := []) (d1 := 1) (x1 := 0) (x2 := x) (by decide +kernel) ln_10_82 mf_X10_join rfl sh_42 rfl (by decide) np_X10_join rfl (Nat.le_of_ble_eq_true rfl) (by decide) (Nat.zero_add _).symm (tq_M_mono (am_X10_join h) ?_)
      refine tq_wv_e (fun z101 h => ?_)
      exact tq_ret_v (st := []) (by decide +kernel) rfl h
    · replace h := h.2 hc
      exact tq_to (tq_lk1 (tq_lk1 (tq_ld1 (tq_lk1 (tq_lk1 (tq_lk1 (tq_lk1 (tq_lk1 (tq_lk1 (tq_lk1 (tq_lk1 tq_l0))))))))))) (ac_X10_passCell_146 h)
def wm_X10_passCell (a1 : Int32) (a2 : Int32) (a3 : Int32) (a4 : Int64) (z : tq_S) (Q : tq_O → tq_S → Prop) : Prop := ∀ v1 : Int32, v1 = (((Int32.toUInt32 a3) >>> ((Int32.toUInt32 ((2 : Int32) * a1)) &&& Int32.toUInt32 31)).toInt32 &&& (3 : Int32)) → ∀ v2 : Int32, v2 = (((Int32.toUInt32 a3) >>> ((Int32.toUInt32 (((2 : Int32) * a1) + (2 : Int32))) &&& Int32.toUInt32 31)).toInt32 &&& (3 : Int32)) → ∀ v3 : Int32, v3 = (a3 &&& (((15 : Int32) <<< (((2 : Int32) * a1) &&& 31)) ^^^ (-1 : Int32))) → wm_X1_holds a1 (a2 + (1 : Int32)) z (tq_wi fun r5 z4 => wm_X1_holds (a1 + (1 : Int32)) a2 z4 (tq_wi fun r7 z6 => wm_X1_holds a1 a2 z6 (tq_wi fun r9 z8 => ((¬ r9 = 0 → ((¬ v1 = 0 → wc_X10_passCell_136 Q a1 a2 a4 v1 v2 v3 r5 r7 z8) ∧ (v1 = 0 → ((¬ v2 = 0 → wc_X10_passCell_136 Q a1 a2 a4 v1 v2 v3 r5 r7 z8) ∧ (v2 = 0 → ((r5 = 0 → Q (.inl none) z8) ∧ (¬ r5 = 0 → ((r7 = 0 → Q (.inl none) z8) ∧ (¬ r7 = 0 → wm_X10_add ((v3 ||| ((1 : Int32) <<< (((2 : Int32) * a1) &&& 31))) ||| ((2 : Int32) <<< ((((2 : Int32) * a1) + (2 : Int32)) &&& 31))) a4 z8 (tq_wv fun z10 => Q (.inl none) z10)))))))))) ∧ (r9 = 0 → ((¬ v1 = 0 → Q (.inl none) z8) ∧ (v1 = 0 → ((¬ v2 = 0 → Q (.inl none) z8) ∧ (v2 = 0 → wm_X10_add v3 a4 z8 (tq_wv fun z11 => Q (.inl none) z11))))))))))
theorem am_X10_passCell {K : Nat × (Nat → Int32)} {x : Nat} {z : tq_S} {Q : tq_O → tq_S → Prop} {a1 : Int32} {a2 : Int32} {a3 : Int32} {a4 : Int64} (h : wm_X10_passCell a1 a2 a3 a4 z Q) : tq_M K 2 x mm_X10_passCell [.ref 42, .int a1, .int a2, .int a3, .long a4] z Q := by
  unfold wm_X10_passCell at h
  refine tq_enter (L := [.ref 42, .int a1, .int a2, .int a3, .long a4, .null, .null, .null, .null, .null, .null]) mf_X10_passCell.1 rfl rfl (Nat.le_of_ble_eq_true rfl) ?_
  refine tq_s_iload_n (kk := 3) (by decide +kernel) rfl ?_
  refine tq_k_ic (n := 2) (v := (2 : Int32)) (by decide +kernel) kc_2 ?_
  refine tq_s_iload_n (kk := 1) (by decide +kernel) rfl ?_
  refine tq_s_imul (by decide +kernel) ?_
  refine tq_s_iushr (by decide +kernel) ?_
  refine tq_k_ic (n := 3) (v := (3 : Int32)) (by decide +kernel) kc_3 ?_
  refine tq_s_iand (by decide +kernel) ?_
  refine tq_g_istore (i := 6) (fun v1 => [.ref 42, .int a1, .int a2, .int a3, .long a4, .null, .int v1, .null, .null, .null, .null]) (by decide +kernel) (by decide) (fun _ => rfl) (fun v1 ev1 => ?_)
  replace h := h v1 ev1
  refine tq_s_iload_n (kk := 3) (by decide +kernel) rfl ?_
  refine tq_k_ic (n := 2) (v := (2 : Int32)) (by decide +kernel) kc_2 ?_
  refine tq_s_iload_n (kk := 1) (by decide +kernel) rfl ?_
  refine tq_s_imul (by decide +kernel) ?_
  refine tq_k_ic (n := 2) (v := (2 : Int32)) (by decide +kernel) kc_2 ?_
  refine tq_s_iadd (by decide +kernel) ?_
  refine tq_s_iushr (by decide +kernel) ?_
  refine tq_k_ic (n := 3) (v := (3 : Int32)) (by decide +kernel) kc_3 ?_
  refine tq_s_iand (by decide +kernel) ?_
  refine tq_g_istore (i := 7) (fun v2 => [.ref 42, .int a1, .int a2, .int a3, .long a4, .null, .int v1, .int v2, .null, .null, .null]) (by decide +kernel) (by decide) (fun _ => rfl) (fun v2 ev2 => ?_)
  replace h := h v2 ev2
  refine tq_s_iload_n (kk := 3) (by decide +kernel) rfl ?_
  refine tq_k_bi (n := 15) (v := (15 : Int32)) (by decide +kernel) kb_15 ?_
  refine tq_k_ic (n := 2) (v := (2 : Int32)) (by decide +kernel) kc_2 ?_
  refine tq_s_iload_n (kk := 1) (by decide +kernel) rfl ?_
  refine tq_s_imul (by decide +kernel) ?_
  refine tq_s_ishl (by decide +kernel) ?_
  refine tq_k_ic (n := -1) (v := (-1 : Int32)) (by decide +kernel) kc_m1 ?_
  refine tq_s_ixor (by decide +kernel) ?_
  refine tq_s_iand (by decide +kernel) ?_
  refine tq_g_istore (i := 8) (fun v3 => [.ref 42, .int a1, .int a2, .int a3, .long a4, .null, .int v1, .int v2, .int v3, .null, .null]) (by decide +kernel) (by decide) (fun _ => rfl) (fun v3 ev3 => ?_)
  replace h := h v3 ev3
  refine tq_s_aload_n (kk := 0) (by decide +kernel) rfl ?_
  refine fg_10_9_42 rfl (by decide +kernel) ?_
  refine tq_s_iload_n (kk := 1) (by decide +kernel) rfl ?_
  refine tq_s_iload_n (kk := 2) (by decide +kernel) rfl ?_
  refine tq_k_ic (n := 1) (v := (1 : Int32)) (by decide +kernel) kc_1 ?_
  refine tq_s_iadd (by decide +kernel) ?_
  refine tq_callVN (as := [.int a1, .int (a2 + (1 : Int32))]) (st := []) (d1 := 0) (x1 := 0) (x2 := x) (by decide +kernel) ln_10_78 mf_X1_holds rfl sh_1 rfl (by decide) np_X1_holds rfl (Nat.le_of_ble_eq_true rfl) (by decide) (Nat.zero_add _).symm (tq_M_mono (am_X1_holds h) ?_)
  refine tq_wi_e (fun r5 z4 h => ?_)
  refine tq_s_istore (i := 9) (L9 := [.ref 42, .int a1, .int a2, .int a3, .long a4, .null, .int v1, .int v2, .int v3, .int r5, .null]) (by decide +kernel) (by decide) rfl ?_
  refine tq_s_aload_n (kk := 0) (by decide +kernel) rfl ?_
  refine fg_10_9_42 rfl (by decide +kernel) ?_
  refine tq_s_iload_n (kk := 1) (by decide +kernel) rfl ?_
  refine tq_k_ic (n := 1) (v := (1 : Int32)) (by decide +kernel) kc_1 ?_
  refine tq_s_iadd (by decide +kernel) ?_
  refine tq_s_iload_n (kk := 2) (by decide +kernel) rfl ?_
  refine tq_callVN (as := [.int (a1 + (1 : Int32)), .int a2]) (st := []) (d1 := 0) (x1 := 0) (x2 := x) (by decide +kernel) ln_10_78 mf_X1_holds rfl sh_1 rfl (by decide) np_X1_holds rfl (Nat.le_of_ble_eq_true rfl) (by decide) (Nat.zero_add _).symm (tq_M_mono (am_X1_holds h) ?_)
  refine tq_wi_e (fun r7 z6 h => ?_)
  refine tq_s_istore (i := 10) (L9 := [.ref 42, .int a1, .int a2, .int a3, .long a4, .null, .int v1, .int v2, .int v3, .int r5, .int r7]) (by decide +kernel) (by decide) rfl ?_
  refine tq_s_aload_n (kk := 0) (by decide +kernel) rfl ?_
  refine fg_10_9_42 rfl (by decide +kernel) ?_
  refine tq_s_iload_n (kk := 1) (by decide +kernel) rfl ?_
  refine tq_s_iload_n (kk := 2) (by decide +kernel) rfl ?_
  refine tq_callVN (as := [.int a1, .int a2]) (st := []) (d1 := 0) (x1 := 0) (x2 := x) (by decide +kernel) ln_10_78 mf_X1_holds rfl sh_1 rfl (by decide) np_X1_holds rfl (Nat.le_of_ble_eq_true rfl) (by decide) (Nat.zero_add _).symm (tq_M_mono (am_X1_holds h) ?_)
  refine tq_wi_e (fun r9 z8 h => ?_)
  refine tq_if_ne (off := 24) (tgt := 91) (by decide +kernel) (by decide +kernel) (fun hc => ?_) (fun hc => ?_)
  · replace h := h.1 hc
    refine tq_s_iload (i := 6) (by decide +kernel) rfl ?_
    refine tq_if_ne (off := 43) (tgt := 136) (by decide +kernel) (by decide +kernel) (fun hc => ?_) (fun hc => ?_)
    · replace h := h.1 hc
      exact tq_to (tq_lk1 (tq_lk1 (tq_lk1 (tq_ld1 (tq_lk1 (tq_lk1 (tq_lk1 (tq_lk1 (tq_lk1 (tq_lk1 (tq_lk1 tq_l0))))))))))) (ac_X10_passCell_136 h)
    · replace h := h.2 hc
      refine tq_s_iload (i := 7) (by decide +kernel) rfl ?_
      refine tq_if_ne (off := 38) (tgt := 136) (by decide +kernel) (by decide +kernel) (fun hc => ?_) (fun hc => ?_)
      · replace h := h.1 hc
        exact tq_to (tq_lk1 (tq_lk1 (tq_lk1 (tq_ld1 (tq_lk1 (tq_lk1 (tq_lk1 (tq_lk1 (tq_lk1 (tq_lk1 (tq_lk1 tq_l0))))))))))) (ac_X10_passCell_136 h)
      · replace h := h.2 hc
        refine tq_s_iload (i := 9) (by decide +kernel) rfl ?_
        refine tq_if_eq (off := 108) (tgt := 211) (by decide +kernel) (by decide +kernel) (fun hc => ?_) (fun hc => ?_)
        · replace h := h.1 hc
          exact tq_ret_v (st := []) (by decide +kernel) rfl h
        · replace h := h.2 hc
          refine tq_s_iload (i := 10) (by decide +kernel) rfl ?_
          refine tq_if_eq (off := 103) (tgt := 211) (by decide +kernel) (by decide +kernel) (fun hc => ?_) (fun hc => ?_)
          · replace h := h.1 hc
            exact tq_ret_v (st := []) (by decide +kernel) rfl h
          · replace h := h.2 hc
            refine tq_s_aload_n (kk := 0) (by decide +kernel) rfl ?_
            refine tq_s_iload (i := 8) (by decide +kernel) rfl ?_
            refine tq_k_ic (n := 1) (v := (1 : Int32)) (by decide +kernel) kc_1 ?_
            refine tq_k_ic (n := 2) (v := (2 : Int32)) (by decide +kernel) kc_2 ?_
            refine tq_s_iload_n (kk := 1) (by decide +kernel) rfl ?_
            refine tq_s_imul (by decide +kernel) ?_
            refine tq_s_ishl (by decide +kernel) ?_
            refine tq_s_ior (by decide +kernel) ?_
            refine tq_k_ic (n := 2) (v := (2 : Int32)) (by decide +kernel) kc_2 ?_
            refine tq_k_ic (n := 2) (v := (2 : Int32)) (by decide +kernel) kc_2 ?_
            refine tq_s_iload_n (kk := 1) (by decide +kernel) rfl ?_
            refine tq_s_imul (by decide +kernel) ?_
            refine tq_k_ic (n := 2) (v := (2 : Int32)) (by decide +kernel) kc_2 ?_
            refine tq_s_iadd (by decide +kernel) ?_
            refine tq_s_ishl (by decide +kernel) ?_
            refine tq_s_ior (by decide +kernel) ?_
            refine tq_s_lload (i := 4) (by decide +kernel) rfl ?_
            refine tq_callV (as := [.int ((v3 ||| ((1 : Int32) <<< (((2 : Int32) * a1) &&& 31))) ||| ((2 : Int32) <<< ((((2 : Int32) * a1) + (2 : Int32)) &&& 31))), .long a4]) (st := []) (d1 := 0) (x1 := 0) (x2 := x) (by decide +kernel) ln_10_54 mf_X10_add rfl sh_42 rfl (by decide) np_X10_add rfl (Nat.le_of_ble_eq_true rfl) (by decide) (Nat.zero_add _).symm (tq_M_mono (am_X10_add h) ?_)
            refine tq_wv_e (fun z10 h => ?_)
            refine tq_s_goto (off := 78) (tgt := 211) (by decide +kernel) (by decide +kernel) ?_
            exact tq_ret_v (st := []) (by decide +kernel) rfl h
  · replace h := h.2 hc
    refine tq_s_iload (i := 6) (by decide +kernel) rfl ?_
    refine tq_if_ne (off := 139) (tgt := 211) (by decide +kernel) (by decide +kernel) (fun hc => ?_) (fun hc => ?_)
    · replace h := h.1 hc
      exact tq_ret_v (st := []) (by decide +kernel) rfl h
    · replace h := h.2 hc
      refine tq_s_iload (i := 7) (by decide +kernel) rfl ?_
      refine tq_if_ne (off := 134) (tgt := 211) (by decide +kernel) (by decide +kernel) (fun hc => ?_) (fun hc => ?_)
      · replace h := h.1 hc
        exact tq_ret_v (st := []) (by decide +kernel) rfl h
      · replace h := h.2 hc
        refine tq_s_aload_n (kk := 0) (by decide +kernel) rfl ?_
        refine tq_s_iload (i := 8) (by decide +kernel) rfl ?_
        refine tq_s_lload (i := 4) (by decide +kernel) rfl ?_
        refine tq_callV (as := [.int v3, .long a4]) (st := []) (d1 := 0) (x1 := 0) (x2 := x) (by decide +kernel) ln_10_54 mf_X10_add rfl sh_42 rfl (by decide) np_X10_add rfl (Nat.le_of_ble_eq_true rfl) (by decide) (Nat.zero_add _).symm (tq_M_mono (am_X10_add h) ?_)
        refine tq_wv_e (fun z11 h => ?_)
        refine tq_s_goto (off := 123) (tgt := 211) (by decide +kernel) (by decide +kernel) ?_
        exact tq_ret_v (st := []) (by decide +kernel) rfl h
def wc_X10_countLoops_133 (B21 : Int32 → tq_S → Prop) (B34 : Int32 → tq_S → Prop) (B71 : Int32 → tq_S → Prop) (Q : tq_O → tq_S → Prop) (a1 : Int32) (a2 : Int32) (a3 : Int32) (z : tq_S) : Prop := ∀ v101 : Int32, v101 = a3 + (1 : Int32) → B71 v101 z
theorem ac_X10_countLoops_133 {K : Nat × (Nat → Int32)} {x : Nat} {Q : tq_O → tq_S → Prop} {B21 : Int32 → tq_S → Prop} {B34 : Int32 → tq_S → Prop} {B71 : Int32 → tq_S → Prop} {a1 : Int32} {a2 : Int32} {a3 : Int32} {z : tq_S} (hB21 : ∀ (b1 : Int32) (z : tq_S), B21 b1 z → tq_T K 3 x mm_X10_countLoops 21 [.ref 42, .int b1, .null, .null, .null] [] z Q) (hB34 : ∀ (b2 : Int32) (z : tq_S), B34 b2 z → tq_T K 3 x mm_X10_countLoops 34 [.ref 42, .int a1, .int b2, .null, .null] [] z Q) (hB71 : ∀ (b3 : Int32) (z : tq_S), B71 b3 z → tq_T K 3 x mm_X10_countLoops 71 [.ref 42, .int a1, .int a2, .int b3, .null] [] z Q) (h : wc_X10_countLoops_133 B21 B34 B71 Q a1 a2 a3 z) : tq_T K 3 x mm_X10_countLoops 133 [.ref 42, .int a1, .int a2, .int a3, .null] [] z Q := by
  unfold wc_X10_countLoops_133 at h
  refine tq_g_iinc (i := 3) (fun v101 => [.ref 42, .int a1, .int a2, .int v101, .null]) (by decide +kernel) rfl (1 : Int32) kc_1 (fun _ => rfl) (fun v101 ev101 => ?_)
  replace h := h v101 ev101
  refine tq_s_goto (off := -65) (tgt := 71) (by decide +kernel) (by decide +kernel) ?_
  exact hB71 _ _ h
def wc_X10_countLoops_121 (B21 : Int32 → tq_S → Prop) (B34 : Int32 → tq_S → Prop) (B71 : Int32 → tq_S → Prop) (Q : tq_O → tq_S → Prop) (a1 : Int32) (a2 : Int32) (a3 : Int32) (s0 : Int32) (s1 : Int32) (s2 : Int32) (z : tq_S) : Prop := vp_in a3 1024 ∧ wm_X10_passCell s2 s1 s0 ((Int64.toUInt64 (tq_al z 44 (Int32.toNatClampNeg a3))) >>> ((Int32.toInt64 (18 : Int32)).toUInt64 &&& Int64.toUInt64 63)).toInt64 z (tq_wv fun z101 => wc_X10_countLoops_133 B21 B34 B71 Q a1 a2 a3 z101)
theorem ac_X10_countLoops_121 {K : Nat × (Nat → Int32)} {x : Nat} {Q : tq_O → tq_S → Prop} {B21 : Int32 → tq_S → Prop} {B34 : Int32 → tq_S → Prop} {B71 : Int32 → tq_S → Prop} {a1 : Int32} {a2 : Int32} {a3 : Int32} {s0 : Int32} {s1 : Int32} {s2 : Int32} {z : tq_S} (hB21 : ∀ (b1 : Int32) (z : tq_S), B21 b1 z → tq_T K 3 x mm_X10_countLoops 21 [.ref 42, .int b1, .null, .null, .null] [] z Q) (hB34 : ∀ (b2 : Int32) (z : tq_S), B34 b2 z → tq_T K 3 x mm_X10_countLoops 34 [.ref 42, .int a1, .int b2, .null, .null] [] z Q) (hB71 : ∀ (b3 : Int32) (z : tq_S), B71 b3 z → tq_T K 3 x mm_X10_countLoops 71 [.ref 42, .int a1, .int a2, .int b3, .null] [] z Q) (h : wc_X10_countLoops_121 B21 B34 B71 Q a1 a2 a3 s0 s1 s2 z) : tq_T K 3 x mm_X10_countLoops 121 [.ref 42, .int a1, .int a2, .int a3, .null] [.int s0, .int s1, .int s2, .ref 42] z Q := by
  unfold wc_X10_countLoops_121 at h
  refine tq_s_aload_n (kk := 0) (by decide +kernel) rfl ?_
  refine fg_10_17_42 rfl (by decide +kernel) ?_
  refine tq_s_iload_n (kk := 3) (by decide +kernel) rfl ?_
  refine tq_s_lald (by decide +kernel) sh_44 h.1 ?_
  replace h := h.2
  refine tq_k_bi (n := 18) (v := (18 : Int32)) (by decide +kernel) kb_18 ?_
  refine tq_s_lushr (by decide +kernel) ?_
  refine tq_callV (as := [.int s2, .int s1, .int s0, .long ((Int64.toUInt64 (tq_al z 44 (Int32.toNatClampNeg a3))) >>> ((Int32.toInt64 (18 : Int32)).toUInt64 &&& Int64.toUInt64 63)).toInt64]) (st := []) (d1 := 2) (x1 := 0) (x2 := x) (by decide +kernel) ln_10_73 mf_X10_passCell rfl sh_42 rfl (by decide) np_X10_passCell rfl (Nat.le_of_ble_eq_true rfl) (by decide) (Nat.zero_add _).symm (tq_M_mono (am_X10_passCell h) ?_)
  refine tq_wv_e (fun z101 h => ?_)
  exact ac_X10_countLoops_133 hB21 hB34 hB71 h
def wc_X10_countLoops_139 (B21 : Int32 → tq_S → Prop) (B34 : Int32 → tq_S → Prop) (Q : tq_O → tq_S → Prop) (a1 : Int32) (a2 : Int32) (z : tq_S) : Prop := ∀ v101 : Int32, v101 = a2 + (1 : Int32) → B34 v101 z
theorem ac_X10_countLoops_139 {K : Nat × (Nat → Int32)} {x : Nat} {Q : tq_O → tq_S → Prop} {B21 : Int32 → tq_S → Prop} {B34 : Int32 → tq_S → Prop} {a1 : Int32} {a2 : Int32} {z : tq_S} (hB21 : ∀ (b1 : Int32) (z : tq_S), B21 b1 z → tq_T K 3 x mm_X10_countLoops 21 [.ref 42, .int b1, .null, .null, .null] [] z Q) (hB34 : ∀ (b2 : Int32) (z : tq_S), B34 b2 z → tq_T K 3 x mm_X10_countLoops 34 [.ref 42, .int a1, .int b2, .null, .null] [] z Q) (h : wc_X10_countLoops_139 B21 B34 Q a1 a2 z) : tq_T K 3 x mm_X10_countLoops 139 [.ref 42, .int a1, .int a2, .null, .null] [] z Q := by
  unfold wc_X10_countLoops_139 at h
  refine tq_g_iinc (i := 2) (fun v101 => [.ref 42, .int a1, .int v101, .null, .null]) (by decide +kernel) rfl (1 : Int32) kc_1 (fun _ => rfl) (fun v101 ev101 => ?_)
  replace h := h v101 ev101
  refine tq_s_goto (off := -108) (tgt := 34) (by decide +kernel) (by decide +kernel) ?_
  exact hB34 _ _ h
def wb_X10_countLoops_71 (B21 : Int32 → tq_S → Prop) (B34 : Int32 → tq_S → Prop) (B71 : Int32 → tq_S → Prop) (Q : tq_O → tq_S → Prop) (a1 : Int32) (a2 : Int32) (a3 : Int32) (z : tq_S) : Prop := (((1024 : Int32) ≤ a3 → wc_X10_countLoops_139 B21 B34 Q a1 a2 z) ∧ (¬ (1024 : Int32) ≤ a3 → vp_in a3 1024 ∧ (((tq_al z 44 (Int32.toNatClampNeg a3)) = (0 : Int64) → wc_X10_countLoops_133 B21 B34 B71 Q a1 a2 a3 z) ∧ (¬ (tq_al z 44 (Int32.toNatClampNeg a3)) = (0 : Int64) → vp_in a3 1024 ∧ ∀ v101 : Int32, v101 = (Int64.toInt32 ((tq_al z 44 (Int32.toNatClampNeg a3)) &&& (262143 : Int64))) → ((¬ a2 = 0 → wc_X10_countLoops_121 B21 B34 B71 Q a1 a2 a3 v101 a1 a2 z) ∧ (a2 = 0 → wc_X10_countLoops_121 B21 B34 B71 Q a1 a2 a3 ((v101 <<< ((2 : Int32) &&& 31)) &&& (262143 : Int32)) a1 a2 z))))))
def wc_X10_countLoops_71 (B21 : Int32 → tq_S → Prop) (B34 : Int32 → tq_S → Prop) (Q : tq_O → tq_S → Prop) (a1 : Int32) (a2 : Int32) (a3 : Int32) (z : tq_S) : Prop := tq_lp (σ := Int32 × tq_S) (fun B s => wb_X10_countLoops_71 B21 B34 (fun b3 z => B (b3, z)) Q a1 a2 s.1 s.2) (a3, z)
theorem ab_X10_countLoops_71 {K : Nat × (Nat → Int32)} {x : Nat} {Q : tq_O → tq_S → Prop} {B21 : Int32 → tq_S → Prop} {B34 : Int32 → tq_S → Prop} {B71 : Int32 → tq_S → Prop} {a1 : Int32} {a2 : Int32} {a3 : Int32} {z : tq_S} (hB21 : ∀ (b1 : Int32) (z : tq_S), B21 b1 z → tq_T K 3 x mm_X10_countLoops 21 [.ref 42, .int b1, .null, .null, .null] [] z Q) (hB34 : ∀ (b2 : Int32) (z : tq_S), B34 b2 z → tq_T K 3 x mm_X10_countLoops 34 [.ref 42, .int a1, .int b2, .null, .null] [] z Q) (hB71 : ∀ (b3 : Int32) (z : tq_S), B71 b3 z → tq_T K 3 x mm_X10_countLoops 71 [.ref 42, .int a1, .int a2, .int b3, .null] [] z Q) (h : wb_X10_countLoops_71 B21 B34 B71 Q a1 a2 a3 z) : tq_T K 3 x mm_X10_countLoops 71 [.ref 42, .int a1, .int a2, .int a3, .null] [] z Q := by
  unfold wb_X10_countLoops_71 at h
  refine tq_s_iload_n (kk := 3) (by decide +kernel) rfl ?_
  refine tq_k_si (n := 1024) (v := (1024 : Int32)) (by decide +kernel) ks_1024 ?_
  refine tq_icmp_ge (off := 64) (tgt := 139) (by decide +kernel) (by decide +kernel) (fun hc => ?_) (fun hc => ?_)
  · replace h := h.1 hc
    exact tq_to (tq_lk1 (tq_lk1 (tq_lk1 (tq_ld1 (tq_lk1 tq_l0))))) (ac_X10_countLoops_139 hB21 hB34 h)
  · replace h := h.2 hc
    refine tq_s_aload_n (kk := 0) (by decide +kernel) rfl ?_
    refine fg_10_17_42 rfl (by decide +kernel) ?_
    refine tq_s_iload_n (kk := 3) (by decide +kernel) rfl ?_
    refine tq_s_lald (by decide +kernel) sh_44 h.1 ?_
    replace h := h.2
    refine tq_k_lc (n := 0) (v := (0 : Int64)) (by decide +kernel) (by decide +kernel) ?_
    refine tq_lcmp_eq (off := 47) (tgt := 133) (by decide +kernel) (by decide +kernel) (by decide +kernel) (fun hc => ?_) (fun hc => ?_)
    · replace h := h.1 hc
      exact ac_X10_countLoops_133 hB21 hB34 hB71 h
    · replace h := h.2 hc
      refine tq_s_aload_n (kk := 0) (by decide +kernel) rfl ?_
      refine fg_10_17_42 rfl (by decide +kernel) ?_
      refine tq_s_iload_n (kk := 3) (by decide +kernel) rfl ?_
      refine tq_s_lald (by decide +kernel) sh_44 h.1 ?_
      replace h := h.2
      refine tq_s_ldc2 (i := 70) (v := (262143 : Int64)) (by decide +kernel) (by decide +kernel) ?_
      refine tq_s_land (by decide +kernel) ?_
      refine tq_s_l2i (by decide +kernel) ?_
      refine tq_g_istore (i := 4) (fun v101 => [.ref 42, .int a1, .int a2, .int a3, .int v101]) (by decide +kernel) (by decide) (fun _ => rfl) (fun v101 ev101 => ?_)
      replace h := h v101 ev101
      refine tq_s_aload_n (kk := 0) (by decide +kernel) rfl ?_
      refine tq_s_iload_n (kk := 2) (by decide +kernel) rfl ?_
      refine tq_s_iload_n (kk := 1) (by decide +kernel) rfl ?_
      refine tq_s_iload_n (kk := 2) (by decide +kernel) rfl ?_
      refine tq_if_ne (off := 13) (tgt := 119) (by decide +kernel) (by decide +kernel) (fun hc => ?_) (fun hc => ?_)
      · replace h := h.1 hc
        refine tq_s_iload (i := 4) (by decide +kernel) rfl ?_
        exact tq_to (tq_lk1 (tq_lk1 (tq_lk1 (tq_lk1 (tq_ld1 tq_l0))))) (ac_X10_countLoops_121 hB21 hB34 hB71 h)
      · replace h := h.2 hc
        refine tq_s_iload (i := 4) (by decide +kernel) rfl ?_
        refine tq_k_ic (n := 2) (v := (2 : Int32)) (by decide +kernel) kc_2 ?_
        refine tq_s_ishl (by decide +kernel) ?_
        refine tq_s_ldc (i := 72) (v := (262143 : Int32)) (by decide +kernel) (by decide +kernel) ?_
        refine tq_s_iand (by decide +kernel) ?_
        refine tq_s_goto (off := 5) (tgt := 121) (by decide +kernel) (by decide +kernel) ?_
        exact tq_to (tq_lk1 (tq_lk1 (tq_lk1 (tq_lk1 (tq_ld1 tq_l0))))) (ac_X10_countLoops_121 hB21 hB34 hB71 h)
theorem ac_X10_countLoops_71 {K : Nat × (Nat → Int32)} {x : Nat} {Q : tq_O → tq_S → Prop} {B21 : Int32 → tq_S → Prop} {B34 : Int32 → tq_S → Prop} {a1 : Int32} {a2 : Int32} {a3 : Int32} {z : tq_S} (hB21 : ∀ (b1 : Int32) (z : tq_S), B21 b1 z → tq_T K 3 x mm_X10_countLoops 21 [.ref 42, .int b1, .null, .null, .null] [] z Q) (hB34 : ∀ (b2 : Int32) (z : tq_S), B34 b2 z → tq_T K 3 x mm_X10_countLoops 34 [.ref 42, .int a1, .int b2, .null, .null] [] z Q) (h : wc_X10_countLoops_71 B21 B34 Q a1 a2 a3 z) : tq_T K 3 x mm_X10_countLoops 71 [.ref 42, .int a1, .int a2, .int a3, .null] [] z Q :=
  tq_lp_T (σ := Int32 × tq_S) (s := (a3, z)) (G := fun s => tq_T K 3 x mm_X10_countLoops 71 [.ref 42, .int a1, .int a2, .int s.1, .null] [] s.2 Q) (fun B hB s h => ab_X10_countLoops_71 hB21 hB34 (fun b3 z h => hB (b3, z) h) h) h
def wc_X10_countLoops_145 (B21 : Int32 → tq_S → Prop) (Q : tq_O → tq_S → Prop) (a1 : Int32) (z : tq_S) : Prop := ∀ v101 : Int32, v101 = a1 + (1 : Int32) → B21 v101 z
theorem ac_X10_countLoops_145 {K : Nat × (Nat → Int32)} {x : Nat} {Q : tq_O → tq_S → Prop} {B21 : Int32 → tq_S → Prop} {a1 : Int32} {z : tq_S} (hB21 : ∀ (b1 : Int32) (z : tq_S), B21 b1 z → tq_T K 3 x mm_X10_countLoops 21 [.ref 42, .int b1, .null, .null, .null] [] z Q) (h : wc_X10_countLoops_145 B21 Q a1 z) : tq_T K 3 x mm_X10_countLoops 145 [.ref 42, .int a1, .null, .null, .null] [] z Q := by
  unfold wc_X10_countLoops_145 at h
  refine tq_g_iinc (i := 1) (fun v101 => [.ref 42, .int v101, .null, .null, .null]) (by decide +kernel) rfl (1 : Int32) kc_1 (fun _ => rfl) (fun v101 ev101 => ?_)
  replace h := h v101 ev101
  refine tq_s_goto (off := -127) (tgt := 21) (by decide +kernel) (by decide +kernel) ?_
  exact hB21 _ _ h
def wb_X10_countLoops_34 (B21 : Int32 → tq_S → Prop) (B34 : Int32 → tq_S → Prop) (Q : tq_O → tq_S → Prop) (a1 : Int32) (a2 : Int32) (z : tq_S) : Prop := (((tq_fi z 64) ≤ a2 → wc_X10_countLoops_145 B21 Q a1 z) ∧ (¬ (tq_fi z 64) ≤ a2 → (¬ (0 : Int32) < 0) ∧ (¬ (0 : Int32) < 0) ∧ (¬ (1024 : Int32) < 0) ∧ (Int32.toNatClampNeg (0 : Int32) + Int32.toNatClampNeg (1024 : Int32) ≤ 1024) ∧ (Int32.toNatClampNeg (0 : Int32) + Int32.toNatClampNeg (1024 : Int32) ≤ 1024) ∧ ∀ z101 : tq_S, z101 = tq_sal z 44 (va_cpy (tq_al z 45) (tq_al z 44) (Int32.toNatClampNeg (0 : Int32)) (Int32.toNatClampNeg (0 : Int32)) (Int32.toNatClampNeg (1024 : Int32))) → wm_J7_fill_d0a16_r9 (0 : Int64) z101 (tq_wv fun z102 => wc_X10_countLoops_71 B21 B34 Q a1 a2 (0 : Int32) z102)))
def wc_X10_countLoops_34 (B21 : Int32 → tq_S → Prop) (Q : tq_O → tq_S → Prop) (a1 : Int32) (a2 : Int32) (z : tq_S) : Prop := tq_lp (σ := Int32 × tq_S) (fun B s => wb_X10_countLoops_34 B21 (fun b2 z => B (b2, z)) Q a1 s.1 s.2) (a2, z)
theorem ab_X10_countLoops_34 {K : Nat × (Nat → Int32)} {x : Nat} {Q : tq_O → tq_S → Prop} {B21 : Int32 → tq_S → Prop} {B34 : Int32 → tq_S → Prop} {a1 : Int32} {a2 : Int32} {z : tq_S} (hB21 : ∀ (b1 : Int32) (z : tq_S), B21 b1 z → tq_T K 3 x mm_X10_countLoops 21 [.ref 42, .int b1, .null, .null, .null] [] z Q) (hB34 : ∀ (b2 : Int32) (z : tq_S), B34 b2 z → tq_T K 3 x mm_X10_countLoops 34 [.ref 42, .int a1, .int b2, .null, .null] [] z Q) (h : wb_X10_countLoops_34 B21 B34 Q a1 a2 z) : tq_T K 3 x mm_X10_countLoops 34 [.ref 42, .int a1, .int a2, .null, .null] [] z Q := by
  unfold wb_X10_countLoops_34 at h
  refine tq_s_iload_n (kk := 2) (by decide +kernel) rfl ?_
  refine tq_s_aload_n (kk := 0) (by decide +kernel) rfl ?_
  refine fg_10_9_42 rfl (by decide +kernel) ?_
  refine fg_10_61_1 rfl (by decide +kernel) ?_
  refine tq_icmp_ge (off := 103) (tgt := 145) (by decide +kernel) (by decide +kernel) (fun hc => ?_) (fun hc => ?_)
  · replace h := h.1 hc
    exact tq_to (tq_lk1 (tq_lk1 (tq_ld1 (tq_lk1 (tq_lk1 tq_l0))))) (ac_X10_countLoops_145 hB21 h)
  · replace h := h.2 hc
    refine tq_s_aload_n (kk := 0) (by decide +kernel) rfl ?_
    refine fg_10_20_42 rfl (by decide +kernel) ?_
    refine tq_k_ic (n := 0) (v := (0 : Int32)) (by decide +kernel) kc_0 ?_
    refine tq_s_aload_n (kk := 0) (by decide +kernel) rfl ?_
    refine fg_10_17_42 rfl (by decide +kernel) ?_
    refine tq_k_ic (n := 0) (v := (0 : Int32)) (by decide +kernel) kc_0 ?_
    refine tq_k_si (n := 1024) (v := (1024 : Int32)) (by decide +kernel) ks_1024 ?_
    refine tq_g_acopyl (by decide +kernel) la_10_64 sh_45 sh_44 h.1 h.2.1 h.2.2.1 h.2.2.2.1 h.2.2.2.2.1 (Nat.le_of_ble_eq_true rfl) (fun z101 ez101 => ?_)
    replace h := h.2.2.2.2.2 z101 ez101
    refine tq_s_aload_n (kk := 0) (by decide +kernel) rfl ?_
    refine fg_10_20_42 rfl (by decide +kernel) ?_
    refine tq_k_lc (n := 0) (v := (0 : Int64)) (by decide +kernel) (by decide +kernel) ?_
    refine tq_callS (as := [.ref 45, .long (0 : Int64)]) (st := []) (d1 := 0) (x1 := 0) (x2 := x) (by decide +kernel) ln_10_23 mf_J7_fill_d0a16 rfl (by decide) np_J7_fill_d0a16 rfl (Nat.le_of_ble_eq_true rfl) (by decide) (Nat.zero_add _).symm (tq_M_mono (am_J7_fill_d0a16_r9 h) ?_)
    refine tq_wv_e (fun z102 h => ?_)
    refine tq_k_ic (n := 0) (v := (0 : Int32)) (by decide +kernel) kc_0 ?_
    refine tq_s_istore_n (kk := 3) (L9 := [.ref 42, .int a1, .int a2, .int (0 : Int32), .null]) (by decide +kernel) (by decide) rfl ?_
    exact ac_X10_countLoops_71 hB21 hB34 h
theorem ac_X10_countLoops_34 {K : Nat × (Nat → Int32)} {x : Nat} {Q : tq_O → tq_S → Prop} {B21 : Int32 → tq_S → Prop} {a1 : Int32} {a2 : Int32} {z : tq_S} (hB21 : ∀ (b1 : Int32) (z : tq_S), B21 b1 z → tq_T K 3 x mm_X10_countLoops 21 [.ref 42, .int b1, .null, .null, .null] [] z Q) (h : wc_X10_countLoops_34 B21 Q a1 a2 z) : tq_T K 3 x mm_X10_countLoops 34 [.ref 42, .int a1, .int a2, .null, .null] [] z Q :=
  tq_lp_T (σ := Int32 × tq_S) (s := (a2, z)) (G := fun s => tq_T K 3 x mm_X10_countLoops 34 [.ref 42, .int a1, .int s.1, .null, .null] [] s.2 Q) (fun B hB s h => ab_X10_countLoops_34 hB21 (fun b2 z h => hB (b2, z) h) h) h
def wc_X10_countLoops_151 (Q : tq_O → tq_S → Prop)  (z : tq_S) : Prop := Q (.inl (some (.long (tq_fl z 2692)))) z
theorem ac_X10_countLoops_151 {K : Nat × (Nat → Int32)} {x : Nat} {Q : tq_O → tq_S → Prop}  {z : tq_S} (h : wc_X10_countLoops_151 Q z) : tq_T K 3 x mm_X10_countLoops 151 [.ref 42, .null, .null, .null, .null] [] z Q := by
  unfold wc_X10_countLoops_151 at h
  refine tq_s_aload_n (kk := 0) (by decide +kernel) rfl ?_
  refine fg_10_58_42 rfl (by decide +kernel) ?_
  exact tq_ret_l (st := []) (by decide +kernel) rfl h
def wb_X10_countLoops_21 (B21 : Int32 → tq_S → Prop) (Q : tq_O → tq_S → Prop) (a1 : Int32) (z : tq_S) : Prop := (((tq_fi z 65) ≤ a1 → wc_X10_countLoops_151 Q z) ∧ (¬ (tq_fi z 65) ≤ a1 → wc_X10_countLoops_34 B21 Q a1 (0 : Int32) z))
def wc_X10_countLoops_21 (Q : tq_O → tq_S → Prop) (a1 : Int32) (z : tq_S) : Prop := tq_lp (σ := Int32 × tq_S) (fun B s => wb_X10_countLoops_21 (fun b1 z => B (b1, z)) Q s.1 s.2) (a1, z)
theorem ab_X10_countLoops_21 {K : Nat × (Nat → Int32)} {x : Nat} {Q : tq_O → tq_S → Prop} {B21 : Int32 → tq_S → Prop} {a1 : Int32} {z : tq_S} (hB21 : ∀ (b1 : Int32) (z : tq_S), B21 b1 z → tq_T K 3 x mm_X10_countLoops 21 [.ref 42, .int b1, .null, .null, .null] [] z Q) (h : wb_X10_countLoops_21 B21 Q a1 z) : tq_T K 3 x mm_X10_countLoops 21 [.ref 42, .int a1, .null, .null, .null] [] z Q := by
  unfold wb_X10_countLoops_21 at h
  refine tq_s_iload_n (kk := 1) (by decide +kernel) rfl ?_
  refine tq_s_aload_n (kk := 0) (by decide +kernel) rfl ?_
  refine fg_10_9_42 rfl (by decide +kernel) ?_
  refine fg_10_29_1 rfl (by decide +kernel) ?_
  refine tq_icmp_ge (off := 122) (tgt := 151) (by decide +kernel) (by decide +kernel) (fun hc => ?_) (fun hc => ?_)
  · replace h := h.1 hc
    exact tq_to (tq_lk1 (tq_ld1 (tq_lk1 (tq_lk1 (tq_lk1 tq_l0))))) (ac_X10_countLoops_151 h)
  · replace h := h.2 hc
    refine tq_k_ic (n := 0) (v := (0 : Int32)) (by decide +kernel) kc_0 ?_
    refine tq_s_istore_n (kk := 2) (L9 := [.ref 42, .int a1, .int (0 : Int32), .null, .null]) (by decide +kernel) (by decide) rfl ?_
    exact ac_X10_countLoops_34 hB21 h
theorem ac_X10_countLoops_21 {K : Nat × (Nat → Int32)} {x : Nat} {Q : tq_O → tq_S → Prop} {a1 : Int32} {z : tq_S} (h : wc_X10_countLoops_21 Q a1 z) : tq_T K 3 x mm_X10_countLoops 21 [.ref 42, .int a1, .null, .null, .null] [] z Q :=
  tq_lp_T (σ := Int32 × tq_S) (s := (a1, z)) (G := fun s => tq_T K 3 x mm_X10_countLoops 21 [.ref 42, .int s.1, .null, .null, .null] [] s.2 Q) (fun B hB s h => ab_X10_countLoops_21 (fun b1 z h => hB (b1, z) h) h) h
def wm_X10_countLoops  (z : tq_S) (Q : tq_O → tq_S → Prop) : Prop := wm_J7_fill_d0a16_r9 (0 : Int64) z (tq_wv fun z1 => wm_X10_add (0 : Int32) (1 : Int64) z1 (tq_wv fun z2 => ∀ z3 : tq_S, z3 = tq_sfl z2 2692 (0 : Int64) → wc_X10_countLoops_21 Q (0 : Int32) z3))
theorem am_X10_countLoops {K : Nat × (Nat → Int32)} {x : Nat} {z : tq_S} {Q : tq_O → tq_S → Prop}  (h : wm_X10_countLoops z Q) : tq_M K 3 x mm_X10_countLoops [.ref 42] z Q := by
  unfold wm_X10_countLoops at h
  refine tq_enter (L := [.ref 42, .null, .null, .null, .null]) mf_X10_countLoops.1 rfl rfl (Nat.le_of_ble_eq_true rfl) ?_
  refine tq_s_aload_n (kk := 0) (by decide +kernel) rfl ?_
  refine fg_10_20_42 rfl (by decide +kernel) ?_
  refine tq_k_lc (n := 0) (v := (0 : Int64)) (by decide +kernel) (by decide +kernel) ?_
  refine tq_callS (as := [.ref 45, .long (0 : Int64)]) (st := []) (d1 := 0) (x1 := 0) (x2 := x) (by decide +kernel) ln_10_23 mf_J7_fill_d0a16 rfl (by decide) np_J7_fill_d0a16 rfl (Nat.le_of_ble_eq_true rfl) (by decide) (Nat.zero_add _).symm (tq_M_mono (am_J7_fill_d0a16_r9 h) ?_)
  refine tq_wv_e (fun z1 h => ?_)
  refine tq_s_aload_n (kk := 0) (by decide +kernel) rfl ?_
  refine tq_k_ic (n := 0) (v := (0 : Int32)) (by decide +kernel) kc_0 ?_
  refine tq_k_lc (n := 1) (v := (1 : Int64)) (by decide +kernel) (by decide +kernel) ?_
  refine tq_callV (as := [.int (0 : Int32), .long (1 : Int64)]) (st := []) (d1 := 0) (x1 := 0) (x2 := x) (by decide +kernel) ln_10_54 mf_X10_add rfl sh_42 rfl (by decide) np_X10_add rfl (Nat.le_of_ble_eq_true rfl) (by decide) (Nat.zero_add _).symm (tq_M_mono (am_X10_add h) ?_)
  refine tq_wv_e (fun z2 h => ?_)
  refine tq_s_aload_n (kk := 0) (by decide +kernel) rfl ?_
  refine tq_k_lc (n := 0) (v := (0 : Int64)) (by decide +kernel) (by decide +kernel) ?_
  refine fp_10_58_42 rfl (by decide +kernel) (fun z3 ez3 => ?_)
  replace h := h z3 ez3
  refine tq_k_ic (n := 0) (v := (0 : Int32)) (by decide +kernel) kc_0 ?_
  refine tq_s_istore_n (kk := 1) (L9 := [.ref 42, .int (0 : Int32), .null, .null, .null]) (by decide +kernel) (by decide) rfl ?_
  exact ac_X10_countLoops_21 h
def wc_X11_loops_22 (Q : tq_O → tq_S → Prop)  (z : tq_S) : Prop := Q (.inr 4) z
theorem ac_X11_loops_22 {K : Nat × (Nat → Int32)} {Q : tq_O → tq_S → Prop}  {z : tq_S} (h : wc_X11_loops_22 Q z) : tq_T K 4 1 mm_X11_loops 22 [.null] [] z Q := by
  unfold wc_X11_loops_22 at h
  exact tq_throwSW th_11_159_428 rfl (by decide +kernel) (by decide +kernel) (by decide +kernel) (by decide +kernel) (by decide +kernel) (Nat.le_of_ble_eq_true rfl) rfl (Nat.le_refl 1) h
def wm_X11_loops  (z : tq_S) (Q : tq_O → tq_S → Prop) : Prop := wm_X1_size z (tq_wi fun r2 z1 => (((36 : Int32) < r2 → wc_X11_loops_22 Q z1) ∧ (¬ (36 : Int32) < r2 → (((tq_fi z1 66) = 0 → wm_X10_countLoops z1 (tq_wl fun r4 z3 => wm_X11_say r4 z3 (tq_wi fun r6 z5 => Q (.inl (some (.int r6))) z5))) ∧ (¬ (tq_fi z1 66) = 0 → wc_X11_loops_22 Q z1)))))
theorem am_X11_loops {K : Nat × (Nat → Int32)} {z : tq_S} {Q : tq_O → tq_S → Prop}  (h : wm_X11_loops z Q) : tq_M K 4 1 mm_X11_loops [.ref 0] z Q := by
  unfold wm_X11_loops at h
  refine tq_enter (L := [.ref 0]) mf_X11_loops.1 rfl rfl (Nat.le_of_ble_eq_true rfl) ?_
  refine tq_s_aload_n (kk := 0) (by decide +kernel) rfl ?_
  refine fg_11_10_0 rfl (by decide +kernel) ?_
  refine tq_callVN (as := []) (st := []) (d1 := 1) (x1 := 0) (x2 := 1) (by decide +kernel) ln_11_123 mf_X1_size rfl sh_1 rfl (by decide) np_X1_size rfl (Nat.le_of_ble_eq_true rfl) (by decide) (Nat.zero_add _).symm (tq_M_mono (am_X1_size h) ?_)
  refine tq_wi_e (fun r2 z1 h => ?_)
  refine tq_k_bi (n := 36) (v := (36 : Int32)) (by decide +kernel) kb_36 ?_
  refine tq_icmp_gt (off := 13) (tgt := 22) (by decide +kernel) (by decide +kernel) (fun hc => ?_) (fun hc => ?_)
  · replace h := h.1 hc
    exact tq_to (tq_ld1 tq_l0) (ac_X11_loops_22 h)
  · replace h := h.2 hc
    refine tq_s_aload_n (kk := 0) (by decide +kernel) rfl ?_
    refine fg_11_10_0 rfl (by decide +kernel) ?_
    refine fg_11_164_1 rfl (by decide +kernel) ?_
    refine tq_if_eq (off := 14) (tgt := 33) (by decide +kernel) (by decide +kernel) (fun hc => ?_) (fun hc => ?_)
    · replace h := h.1 hc
      refine tq_s_aload_n (kk := 0) (by decide +kernel) rfl ?_
      refine tq_s_aload_n (kk := 0) (by decide +kernel) rfl ?_
      refine fg_11_79_0 rfl (by decide +kernel) ?_
      refine tq_callVN (as := []) (st := [.ref 0]) (d1 := 3) (x1 := 0) (x2 := 1) (by decide +kernel) ln_11_430 mf_X10_countLoops rfl sh_42 rfl (by decide) np_X10_countLoops rfl (Nat.le_of_ble_eq_true rfl) (by decide) (Nat.zero_add _).symm (tq_M_mono (am_X10_countLoops h) ?_)
      refine tq_wl_e (fun r4 z3 h => ?_)
      refine tq_callV (as := [.long r4]) (st := []) (d1 := 3) (x1 := 0) (x2 := 1) (by decide +kernel) ln_11_196 mf_X11_say rfl sh_0 rfl (by decide) np_X11_say rfl (Nat.le_of_ble_eq_true rfl) (by decide) (Nat.zero_add _).symm (tq_M_mono (am_X11_say h) ?_)
      refine tq_wi_e (fun r6 z5 h => ?_)
      exact tq_ret_i (st := []) (by decide +kernel) rfl h
    · replace h := h.2 hc
      exact tq_to (tq_ld1 tq_l0) (ac_X11_loops_22 h)
def wm_X11_share (a1 : Int32) (a2 : Int32) (a3 : Int32) (z : tq_S) (Q : tq_O → tq_S → Prop) : Prop := wm_X1_isPiece a1 a2 a3 z (tq_wi fun r2 z1 => ((¬ r2 = 0 → wm_X5_total z1 (tq_wl fun r4 z3 => (((0 : Int64) < r4 → wm_X5_fillHaving z3 (tq_wv fun z5 => wm_X5_withPiece a1 a2 a3 z5 (tq_wl fun r7 z6 => vf_n32 (FP.fdiv (FP.l2f r7) (FP.l2f r4)) ∧ Q (.inl (some (.float (FP.fdiv (FP.l2f r7) (FP.l2f r4))))) z6))) ∧ (¬ (0 : Int64) < r4 → Q (.inr 0) z3)))) ∧ (r2 = 0 → Q (.inr 3) z1)))
theorem am_X11_share {K : Nat × (Nat → Int32)} {z : tq_S} {Q : tq_O → tq_S → Prop} {a1 : Int32} {a2 : Int32} {a3 : Int32} (h : wm_X11_share a1 a2 a3 z Q) : tq_M K 5 1 mm_X11_share [.ref 0, .int a1, .int a2, .int a3] z Q := by
  unfold wm_X11_share at h
  refine tq_enter (L := [.ref 0, .int a1, .int a2, .int a3, .null, .null]) mf_X11_share.1 rfl rfl (Nat.le_of_ble_eq_true rfl) ?_
  refine tq_s_aload_n (kk := 0) (by decide +kernel) rfl ?_
  refine fg_11_10_0 rfl (by decide +kernel) ?_
  refine tq_s_iload_n (kk := 1) (by decide +kernel) rfl ?_
  refine tq_s_iload_n (kk := 2) (by decide +kernel) rfl ?_
  refine tq_s_iload_n (kk := 3) (by decide +kernel) rfl ?_
  refine tq_callVN (as := [.int a1, .int a2, .int a3]) (st := []) (d1 := 1) (x1 := 0) (x2 := 1) (by decide +kernel) ln_11_208 mf_X1_isPiece rfl sh_1 rfl (by decide) np_X1_isPiece rfl (Nat.le_of_ble_eq_true rfl) (by decide) (Nat.zero_add _).symm (tq_M_mono (am_X1_isPiece h) ?_)
  refine tq_wi_e (fun r2 z1 h => ?_)
  refine tq_if_ne (off := 13) (tgt := 23) (by decide +kernel) (by decide +kernel) (fun hc => ?_) (fun hc => ?_)
  · replace h := h.1 hc
    refine tq_s_aload_n (kk := 0) (by decide +kernel) rfl ?_
    refine fg_11_21_0 rfl (by decide +kernel) ?_
    refine tq_callVN (as := []) (st := []) (d1 := 3) (x1 := 0) (x2 := 1) (by decide +kernel) ln_11_192 mf_X5_total rfl sh_2 rfl (by decide) np_X5_total rfl (Nat.le_of_ble_eq_true rfl) (by decide) (Nat.zero_add _).symm (tq_M_mono (am_X5_total h) ?_)
    refine tq_wl_e (fun r4 z3 h => ?_)
    refine tq_s_lstore (i := 4) (L9 := [.ref 0, .int a1, .int a2, .int a3, .long r4, .null]) (by decide +kernel) (by decide) rfl ?_
    refine tq_s_lload (i := 4) (by decide +kernel) rfl ?_
    refine tq_k_lc (n := 0) (v := (0 : Int64)) (by decide +kernel) (by decide +kernel) ?_
    refine tq_lcmp_gt (off := 14) (tgt := 50) (by decide +kernel) (by decide +kernel) (by decide +kernel) (fun hc => ?_) (fun hc => ?_)
    · replace h := h.1 hc
      refine tq_s_aload_n (kk := 0) (by decide +kernel) rfl ?_
      refine fg_11_21_0 rfl (by decide +kernel) ?_
      refine tq_callVN (as := []) (st := []) (d1 := 4) (x1 := 0) (x2 := 1) (by decide +kernel) ln_11_214 mf_X5_fillHaving rfl sh_2 rfl (by decide) np_X5_fillHaving rfl (Nat.le_of_ble_eq_true rfl) (by decide) (Nat.zero_add _).symm (tq_M_mono (am_X5_fillHaving h) ?_)
      refine tq_wv_e (fun z5 h => ?_)
      refine tq_s_aload_n (kk := 0) (by decide +kernel) rfl ?_
      refine fg_11_21_0 rfl (by decide +kernel) ?_
      refine tq_s_iload_n (kk := 1) (by decide +kernel) rfl ?_
      refine tq_s_iload_n (kk := 2) (by decide +kernel) rfl ?_
      refine tq_s_iload_n (kk := 3) (by decide +kernel) rfl ?_
      refine tq_callVN (as := [.int a1, .int a2, .int a3]) (st := []) (d1 := 0) (x1 := 0) (x2 := 1) (by decide +kernel) ln_11_217 mf_X5_withPiece rfl sh_2 rfl (by decide) np_X5_withPiece rfl (Nat.le_of_ble_eq_true rfl) (by decide) (Nat.zero_add _).symm (tq_M_mono (am_X5_withPiece h) ?_)
      refine tq_wl_e (fun r7 z6 h => ?_)
      refine tq_s_l2f (by decide +kernel) ?_
      refine tq_s_lload (i := 4) (by decide +kernel) rfl ?_
      refine tq_s_l2f (by decide +kernel) ?_
      refine tq_s_fdiv (by decide +kernel) h.1 ?_
      replace h := h.2
      exact tq_ret_f (st := []) (by decide +kernel) rfl h
    · replace h := h.2 hc
      exact tq_throwSW th_11_433_435 rfl (by decide +kernel) (by decide +kernel) (by decide +kernel) (by decide +kernel) (by decide +kernel) (Nat.le_of_ble_eq_true rfl) rfl (Nat.le_refl 1) h
  · replace h := h.2 hc
    exact tq_throwS th_11_141_212 rfl (by decide +kernel) (by decide +kernel) (by decide +kernel) (by decide +kernel) (by decide +kernel) (Nat.le_of_ble_eq_true rfl) rfl (Nat.le_refl 1) h
def wm_X11_meanPart  (z : tq_S) (Q : tq_O → tq_S → Prop) : Prop := wm_X1_countParts z (tq_wi fun r2 z1 => ((0 < r2 → wm_X1_size z1 (tq_wi fun r4 z3 => vf_n64 (FP.ddiv (FP.i2d r4) (FP.i2d r2)) ∧ Q (.inl (some (.double (FP.ddiv (FP.i2d r4) (FP.i2d r2))))) z3)) ∧ (¬ 0 < r2 → Q (.inr 0) z1)))
theorem am_X11_meanPart {K : Nat × (Nat → Int32)} {z : tq_S} {Q : tq_O → tq_S → Prop}  (h : wm_X11_meanPart z Q) : tq_M K 4 1 mm_X11_meanPart [.ref 0] z Q := by
  unfold wm_X11_meanPart at h
  refine tq_enter (L := [.ref 0, .null]) mf_X11_meanPart.1 rfl rfl (Nat.le_of_ble_eq_true rfl) ?_
  refine tq_s_aload_n (kk := 0) (by decide +kernel) rfl ?_
  refine fg_11_10_0 rfl (by decide +kernel) ?_
  refine tq_callVN (as := []) (st := []) (d1 := 3) (x1 := 0) (x2 := 1) (by decide +kernel) ln_11_186 mf_X1_countParts rfl sh_1 rfl (by decide) np_X1_countParts rfl (Nat.le_of_ble_eq_true rfl) (by decide) (Nat.zero_add _).symm (tq_M_mono (am_X1_countParts h) ?_)
  refine tq_wi_e (fun r2 z1 h => ?_)
  refine tq_s_istore_n (kk := 1) (L9 := [.ref 0, .int r2]) (by decide +kernel) (by decide) rfl ?_
  refine tq_s_iload_n (kk := 1) (by decide +kernel) rfl ?_
  refine tq_if_gt (off := 14) (tgt := 23) (by decide +kernel) (by decide +kernel) (fun hc => ?_) (fun hc => ?_)
  · replace h := h.1 hc
    refine tq_s_aload_n (kk := 0) (by decide +kernel) rfl ?_
    refine fg_11_10_0 rfl (by decide +kernel) ?_
    refine tq_callVN (as := []) (st := []) (d1 := 1) (x1 := 0) (x2 := 1) (by decide +kernel) ln_11_123 mf_X1_size rfl sh_1 rfl (by decide) np_X1_size rfl (Nat.le_of_ble_eq_true rfl) (by decide) (Nat.zero_add _).symm (tq_M_mono (am_X1_size h) ?_)
    refine tq_wi_e (fun r4 z3 h => ?_)
    refine tq_s_i2d (by decide +kernel) ?_
    refine tq_s_iload_n (kk := 1) (by decide +kernel) rfl ?_
    refine tq_s_i2d (by decide +kernel) ?_
    refine tq_s_ddiv (by decide +kernel) h.1 ?_
    replace h := h.2
    exact tq_ret_d (st := []) (by decide +kernel) rfl h
  · replace h := h.2 hc
    exact tq_throwSW th_11_433_438 rfl (by decide +kernel) (by decide +kernel) (by decide +kernel) (by decide +kernel) (by decide +kernel) (Nat.le_of_ble_eq_true rfl) rfl (Nat.le_refl 1) h
def wc_X1_addTo_89 (B47 : Int64 → Int32 → tq_S → Prop) (B59 : Int64 → Int32 → tq_S → Prop) (Q : tq_O → tq_S → Prop) (a5 : Int32) (a6 : Int32) (s0 : Int32) (s1 : Int64) (z : tq_S) : Prop := ∀ v101 : Int64, v101 = (s1 + (Int32.toInt64 s0)) → ∀ v102 : Int32, v102 = a6 + (1 : Int32) → B59 v101 v102 z
theorem ac_X1_addTo_89 {K : Nat × (Nat → Int32)} {x : Nat} {Q : tq_O → tq_S → Prop} {B47 : Int64 → Int32 → tq_S → Prop} {B59 : Int64 → Int32 → tq_S → Prop} {a5 : Int32} {a6 : Int32} {s0 : Int32} {s1 : Int64} {z : tq_S} (hB47 : ∀ (b3 : Int64) (b5 : Int32) (z : tq_S), B47 b3 b5 z → tq_T K 1 x mm_X1_addTo 47 [.ref 1, .null, .null, .long b3, .null, .int b5, .null] [] z Q) (hB59 : ∀ (b3 : Int64) (b6 : Int32) (z : tq_S), B59 b3 b6 z → tq_T K 1 x mm_X1_addTo 59 [.ref 1, .null, .null, .long b3, .null, .int a5, .int b6] [] z Q) (h : wc_X1_addTo_89 B47 B59 Q a5 a6 s0 s1 z) : tq_T K 1 x mm_X1_addTo 89 [.ref 1, .null, .null, .null, .null, .int a5, .int a6] [.int s0, .long s1] z Q := by
  unfold wc_X1_addTo_89 at h
  refine tq_s_i2l (by decide +kernel) ?_
  refine tq_s_ladd (by decide +kernel) ?_
  refine tq_g_lstore_n (kk := 3) (fun v101 => [.ref 1, .null, .null, .long v101, .null, .int a5, .int a6]) (by decide +kernel) (by decide) (fun _ => rfl) (fun v101 ev101 => ?_)
  replace h := h v101 ev101
  refine tq_g_iinc (i := 6) (fun v102 => [.ref 1, .null, .null, .long v101, .null, .int a5, .int v102]) (by decide +kernel) rfl (1 : Int32) kc_1 (fun _ => rfl) (fun v102 ev102 => ?_)
  replace h := h v102 ev102
  refine tq_s_goto (off := -36) (tgt := 59) (by decide +kernel) (by decide +kernel) ?_
  exact hB59 _ _ _ h
def wc_X1_addTo_98 (B47 : Int64 → Int32 → tq_S → Prop) (Q : tq_O → tq_S → Prop) (a3 : Int64) (a5 : Int32) (z : tq_S) : Prop := ∀ v101 : Int32, v101 = a5 + (1 : Int32) → B47 a3 v101 z
theorem ac_X1_addTo_98 {K : Nat × (Nat → Int32)} {x : Nat} {Q : tq_O → tq_S → Prop} {B47 : Int64 → Int32 → tq_S → Prop} {a3 : Int64} {a5 : Int32} {z : tq_S} (hB47 : ∀ (b3 : Int64) (b5 : Int32) (z : tq_S), B47 b3 b5 z → tq_T K 1 x mm_X1_addTo 47 [.ref 1, .null, .null, .long b3, .null, .int b5, .null] [] z Q) (h : wc_X1_addTo_98 B47 Q a3 a5 z) : tq_T K 1 x mm_X1_addTo 98 [.ref 1, .null, .null, .long a3, .null, .int a5, .null] [] z Q := by
  unfold wc_X1_addTo_98 at h
  refine tq_g_iinc (i := 5) (fun v101 => [.ref 1, .null, .null, .long a3, .null, .int v101, .null]) (by decide +kernel) rfl (1 : Int32) kc_1 (fun _ => rfl) (fun v101 ev101 => ?_)
  replace h := h v101 ev101
  refine tq_s_goto (off := -54) (tgt := 47) (by decide +kernel) (by decide +kernel) ?_
  exact hB47 _ _ _ h
def wb_X1_addTo_59 (B47 : Int64 → Int32 → tq_S → Prop) (B59 : Int64 → Int32 → tq_S → Prop) (Q : tq_O → tq_S → Prop) (a3 : Int64) (a5 : Int32) (a6 : Int32) (z : tq_S) : Prop := (((tq_fi z 64) ≤ a6 → wc_X1_addTo_98 B47 Q a3 a5 z) ∧ (¬ (tq_fi z 64) ≤ a6 → wm_X1_holds a6 a5 z (tq_wi fun r102 z101 => ((r102 = 0 → wc_X1_addTo_89 B47 B59 Q a5 a6 (0 : Int32) ((31 : Int64) * a3) z101) ∧ (¬ r102 = 0 → wc_X1_addTo_89 B47 B59 Q a5 a6 (1 : Int32) ((31 : Int64) * a3) z101)))))
def wc_X1_addTo_59 (B47 : Int64 → Int32 → tq_S → Prop) (Q : tq_O → tq_S → Prop) (a3 : Int64) (a5 : Int32) (a6 : Int32) (z : tq_S) : Prop := tq_lp (σ := Int64 × Int32 × tq_S) (fun B s => wb_X1_addTo_59 B47 (fun b3 b6 z => B (b3, b6, z)) Q s.1 a5 s.2.1 s.2.2) (a3, a6, z)
theorem ab_X1_addTo_59 {K : Nat × (Nat → Int32)} {x : Nat} {Q : tq_O → tq_S → Prop} {B47 : Int64 → Int32 → tq_S → Prop} {B59 : Int64 → Int32 → tq_S → Prop} {a3 : Int64} {a5 : Int32} {a6 : Int32} {z : tq_S} (hB47 : ∀ (b3 : Int64) (b5 : Int32) (z : tq_S), B47 b3 b5 z → tq_T K 1 x mm_X1_addTo 47 [.ref 1, .null, .null, .long b3, .null, .int b5, .null] [] z Q) (hB59 : ∀ (b3 : Int64) (b6 : Int32) (z : tq_S), B59 b3 b6 z → tq_T K 1 x mm_X1_addTo 59 [.ref 1, .null, .null, .long b3, .null, .int a5, .int b6] [] z Q) (h : wb_X1_addTo_59 B47 B59 Q a3 a5 a6 z) : tq_T K 1 x mm_X1_addTo 59 [.ref 1, .null, .null, .long a3, .null, .int a5, .int a6] [] z Q := by
  unfold wb_X1_addTo_59 at h
  refine tq_s_iload (i := 6) (by decide +kernel) rfl ?_
  refine tq_s_aload_n (kk := 0) (by decide +kernel) rfl ?_
  refine fg_1_7_1 rfl (by decide +kernel) ?_
  refine tq_icmp_ge (off := 33) (tgt := 98) (by decide +kernel) (by decide +kernel) (fun hc => ?_) (fun hc => ?_)
  · replace h := h.1 hc
    exact tq_to (tq_lk1 (tq_lk1 (tq_lk1 (tq_lk1 (tq_lk1 (tq_lk1 (tq_ld1 tq_l0))))))) (ac_X1_addTo_98 hB47 h)
  · replace h := h.2 hc
    refine tq_s_ldc2 (i := 84) (v := (31 : Int64)) (by decide +kernel) (by decide +kernel) ?_
    refine tq_s_lload_n (kk := 3) (by decide +kernel) rfl ?_
    refine tq_s_lmul (by decide +kernel) ?_
    refine tq_s_aload_n (kk := 0) (by decide +kernel) rfl ?_
    refine tq_s_iload (i := 6) (by decide +kernel) rfl ?_
    refine tq_s_iload (i := 5) (by decide +kernel) rfl ?_
    refine tq_callV (as := [.int a6, .int a5]) (st := [.long ((31 : Int64) * a3)]) (d1 := 0) (x1 := 0) (x2 := x) (by decide +kernel) ln_1_47 mf_X1_holds rfl sh_1 rfl (by decide) np_X1_holds rfl (Nat.le_of_ble_eq_true rfl) (by decide) (Nat.zero_add _).symm (tq_M_mono (am_X1_holds h) ?_)
    refine tq_wi_e (fun r102 z101 h => ?_)
    refine tq_if_eq (off := 7) (tgt := 88) (by decide +kernel) (by decide +kernel) (fun hc => ?_) (fun hc => ?_)
    · replace h := h.1 hc
      refine tq_k_ic (n := 0) (v := (0 : Int32)) (by decide +kernel) kc_0 ?_
      exact tq_to (tq_lk1 (tq_lk1 (tq_lk1 (tq_ld1 (tq_lk1 (tq_lk1 (tq_lk1 tq_l0))))))) (ac_X1_addTo_89 hB47 hB59 h)
    · replace h := h.2 hc
      refine tq_k_ic (n := 1) (v := (1 : Int32)) (by decide +kernel) kc_1 ?_
      refine tq_s_goto (off := 4) (tgt := 89) (by decide +kernel) (by decide +kernel) ?_
      exact tq_to (tq_lk1 (tq_lk1 (tq_lk1 (tq_ld1 (tq_lk1 (tq_lk1 (tq_lk1 tq_l0))))))) (ac_X1_addTo_89 hB47 hB59 h)
theorem ac_X1_addTo_59 {K : Nat × (Nat → Int32)} {x : Nat} {Q : tq_O → tq_S → Prop} {B47 : Int64 → Int32 → tq_S → Prop} {a3 : Int64} {a5 : Int32} {a6 : Int32} {z : tq_S} (hB47 : ∀ (b3 : Int64) (b5 : Int32) (z : tq_S), B47 b3 b5 z → tq_T K 1 x mm_X1_addTo 47 [.ref 1, .null, .null, .long b3, .null, .int b5, .null] [] z Q) (h : wc_X1_addTo_59 B47 Q a3 a5 a6 z) : tq_T K 1 x mm_X1_addTo 59 [.ref 1, .null, .null, .long a3, .null, .int a5, .int a6] [] z Q :=
  tq_lp_T (σ := Int64 × Int32 × tq_S) (s := (a3, a6, z)) (G := fun s => tq_T K 1 x mm_X1_addTo 59 [.ref 1, .null, .null, .long s.1, .null, .int a5, .int s.2.1] [] s.2.2 Q) (fun B hB s h => ab_X1_addTo_59 hB47 (fun b3 b6 z h => hB (b3, b6, z) h) h) h
def wb_X1_addTo_47 (B47 : Int64 → Int32 → tq_S → Prop) (Q : tq_O → tq_S → Prop) (a3 : Int64) (a5 : Int32) (z : tq_S) : Prop := (((tq_fi z 65) ≤ a5 → Q (.inl (some (.long a3))) z) ∧ (¬ (tq_fi z 65) ≤ a5 → wc_X1_addTo_59 B47 Q a3 a5 (0 : Int32) z))
def wc_X1_addTo_47 (Q : tq_O → tq_S → Prop) (a3 : Int64) (a5 : Int32) (z : tq_S) : Prop := tq_lp (σ := Int64 × Int32 × tq_S) (fun B s => wb_X1_addTo_47 (fun b3 b5 z => B (b3, b5, z)) Q s.1 s.2.1 s.2.2) (a3, a5, z)
theorem ab_X1_addTo_47 {K : Nat × (Nat → Int32)} {x : Nat} {Q : tq_O → tq_S → Prop} {B47 : Int64 → Int32 → tq_S → Prop} {a3 : Int64} {a5 : Int32} {z : tq_S} (hB47 : ∀ (b3 : Int64) (b5 : Int32) (z : tq_S), B47 b3 b5 z → tq_T K 1 x mm_X1_addTo 47 [.ref 1, .null, .null, .long b3, .null, .int b5, .null] [] z Q) (h : wb_X1_addTo_47 B47 Q a3 a5 z) : tq_T K 1 x mm_X1_addTo 47 [.ref 1, .null, .null, .long a3, .null, .int a5, .null] [] z Q := by
  unfold wb_X1_addTo_47 at h
  refine tq_s_iload (i := 5) (by decide +kernel) rfl ?_
  refine tq_s_aload_n (kk := 0) (by decide +kernel) rfl ?_
  refine fg_1_13_1 rfl (by decide +kernel) ?_
  refine tq_icmp_ge (off := 51) (tgt := 104) (by decide +kernel) (by decide +kernel) (fun hc => ?_) (fun hc => ?_)
  · replace h := h.1 hc
    refine tq_s_lload_n (kk := 3) (by decide +kernel) rfl ?_
    exact tq_ret_l (st := []) (by decide +kernel) rfl h
  · replace h := h.2 hc
    refine tq_k_ic (n := 0) (v := (0 : Int32)) (by decide +kernel) kc_0 ?_
    refine tq_s_istore (i := 6) (L9 := [.ref 1, .null, .null, .long a3, .null, .int a5, .int (0 : Int32)]) (by decide +kernel) (by decide) rfl ?_
    exact ac_X1_addTo_59 hB47 h
theorem ac_X1_addTo_47 {K : Nat × (Nat → Int32)} {x : Nat} {Q : tq_O → tq_S → Prop} {a3 : Int64} {a5 : Int32} {z : tq_S} (h : wc_X1_addTo_47 Q a3 a5 z) : tq_T K 1 x mm_X1_addTo 47 [.ref 1, .null, .null, .long a3, .null, .int a5, .null] [] z Q :=
  tq_lp_T (σ := Int64 × Int32 × tq_S) (s := (a3, a5, z)) (G := fun s => tq_T K 1 x mm_X1_addTo 47 [.ref 1, .null, .null, .long s.1, .null, .int s.2.1, .null] [] s.2.2 Q) (fun B hB s h => ab_X1_addTo_47 (fun b3 b5 z h => hB (b3, b5, z) h) h) h
def wc_X1_addTo_41 (Q : tq_O → tq_S → Prop) (s0 : Int32) (s1 : Int64) (z : tq_S) : Prop := ∀ v101 : Int64, v101 = (s1 + (Int32.toInt64 s0)) → wc_X1_addTo_47 Q v101 (0 : Int32) z
theorem ac_X1_addTo_41 {K : Nat × (Nat → Int32)} {x : Nat} {Q : tq_O → tq_S → Prop} {s0 : Int32} {s1 : Int64} {z : tq_S} (h : wc_X1_addTo_41 Q s0 s1 z) : tq_T K 1 x mm_X1_addTo 41 [.ref 1, .null, .null, .null, .null, .null, .null] [.int s0, .long s1] z Q := by
  unfold wc_X1_addTo_41 at h
  refine tq_s_i2l (by decide +kernel) ?_
  refine tq_s_ladd (by decide +kernel) ?_
  refine tq_g_lstore_n (kk := 3) (fun v101 => [.ref 1, .null, .null, .long v101, .null, .null, .null]) (by decide +kernel) (by decide) (fun _ => rfl) (fun v101 ev101 => ?_)
  replace h := h v101 ev101
  refine tq_k_ic (n := 0) (v := (0 : Int32)) (by decide +kernel) kc_0 ?_
  refine tq_s_istore (i := 5) (L9 := [.ref 1, .null, .null, .long v101, .null, .int (0 : Int32), .null]) (by decide +kernel) (by decide) rfl ?_
  exact ac_X1_addTo_47 h
def wm_X1_addTo (a1 : Int64) (z : tq_S) (Q : tq_O → tq_S → Prop) : Prop := ∀ v1 : Int64, v1 = (((31 : Int64) * a1) + (Int32.toInt64 (tq_fi z 64))) → ∀ v2 : Int64, v2 = (((31 : Int64) * v1) + (Int32.toInt64 (tq_fi z 65))) → (((tq_fi z 66) = 0 → wc_X1_addTo_41 Q (0 : Int32) ((31 : Int64) * v2) z) ∧ (¬ (tq_fi z 66) = 0 → wc_X1_addTo_41 Q (1 : Int32) ((31 : Int64) * v2) z))
theorem am_X1_addTo {K : Nat × (Nat → Int32)} {x : Nat} {z : tq_S} {Q : tq_O → tq_S → Prop} {a1 : Int64} (h : wm_X1_addTo a1 z Q) : tq_M K 1 x mm_X1_addTo [.ref 1, .long a1] z Q := by
  unfold wm_X1_addTo at h
  refine tq_enter (L := [.ref 1, .long a1, .null, .null, .null, .null, .null]) mf_X1_addTo.1 rfl rfl (Nat.le_of_ble_eq_true rfl) ?_
  refine tq_s_ldc2 (i := 84) (v := (31 : Int64)) (by decide +kernel) (by decide +kernel) ?_
  refine tq_s_lload_n (kk := 1) (by decide +kernel) rfl ?_
  refine tq_s_lmul (by decide +kernel) ?_
  refine tq_s_aload_n (kk := 0) (by decide +kernel) rfl ?_
  refine fg_1_7_1 rfl (by decide +kernel) ?_
  refine tq_s_i2l (by decide +kernel) ?_
  refine tq_s_ladd (by decide +kernel) ?_
  refine tq_g_lstore_n (kk := 3) (fun v1 => [.ref 1, .long a1, .null, .long v1, .null, .null, .null]) (by decide +kernel) (by decide) (fun _ => rfl) (fun v1 ev1 => ?_)
  replace h := h v1 ev1
  refine tq_s_ldc2 (i := 84) (v := (31 : Int64)) (by decide +kernel) (by decide +kernel) ?_
  refine tq_s_lload_n (kk := 3) (by decide +kernel) rfl ?_
  refine tq_s_lmul (by decide +kernel) ?_
  refine tq_s_aload_n (kk := 0) (by decide +kernel) rfl ?_
  refine fg_1_13_1 rfl (by decide +kernel) ?_
  refine tq_s_i2l (by decide +kernel) ?_
  refine tq_s_ladd (by decide +kernel) ?_
  refine tq_g_lstore_n (kk := 3) (fun v2 => [.ref 1, .long a1, .null, .long v2, .null, .null, .null]) (by decide +kernel) (by decide) (fun _ => rfl) (fun v2 ev2 => ?_)
  replace h := h v2 ev2
  refine tq_s_ldc2 (i := 84) (v := (31 : Int64)) (by decide +kernel) (by decide +kernel) ?_
  refine tq_s_lload_n (kk := 3) (by decide +kernel) rfl ?_
  refine tq_s_lmul (by decide +kernel) ?_
  refine tq_s_aload_n (kk := 0) (by decide +kernel) rfl ?_
  refine fg_1_16_1 rfl (by decide +kernel) ?_
  refine tq_if_eq (off := 7) (tgt := 40) (by decide +kernel) (by decide +kernel) (fun hc => ?_) (fun hc => ?_)
  · replace h := h.1 hc
    refine tq_k_ic (n := 0) (v := (0 : Int32)) (by decide +kernel) kc_0 ?_
    exact tq_to (tq_lk1 (tq_ld1 (tq_lk1 (tq_ld1 (tq_lk1 (tq_lk1 (tq_lk1 tq_l0))))))) (ac_X1_addTo_41 h)
  · replace h := h.2 hc
    refine tq_k_ic (n := 1) (v := (1 : Int32)) (by decide +kernel) kc_1 ?_
    refine tq_s_goto (off := 4) (tgt := 41) (by decide +kernel) (by decide +kernel) ?_
    exact tq_to (tq_lk1 (tq_ld1 (tq_lk1 (tq_ld1 (tq_lk1 (tq_lk1 (tq_lk1 tq_l0))))))) (ac_X1_addTo_41 h)
def wc_X2_addTo_62 (B5 : Int64 → Int32 → tq_S → Prop) (B20 : Int64 → Int32 → tq_S → Prop) (Q : tq_O → tq_S → Prop) (a3 : Int64) (a5 : Int32) (a6 : Int32) (z : tq_S) : Prop := ∀ v101 : Int32, v101 = a6 + (1 : Int32) → B20 a3 v101 z
theorem ac_X2_addTo_62 {K : Nat × (Nat → Int32)} {x : Nat} {Q : tq_O → tq_S → Prop} {B5 : Int64 → Int32 → tq_S → Prop} {B20 : Int64 → Int32 → tq_S → Prop} {a3 : Int64} {a5 : Int32} {a6 : Int32} {z : tq_S} (hB5 : ∀ (b3 : Int64) (b5 : Int32) (z : tq_S), B5 b3 b5 z → tq_T K 2 x mm_X2_addTo 5 [.ref 8, .null, .null, .long b3, .null, .int b5, .null] [] z Q) (hB20 : ∀ (b3 : Int64) (b6 : Int32) (z : tq_S), B20 b3 b6 z → tq_T K 2 x mm_X2_addTo 20 [.ref 8, .null, .null, .long b3, .null, .int a5, .int b6] [] z Q) (h : wc_X2_addTo_62 B5 B20 Q a3 a5 a6 z) : tq_T K 2 x mm_X2_addTo 62 [.ref 8, .null, .null, .long a3, .null, .int a5, .int a6] [] z Q := by
  unfold wc_X2_addTo_62 at h
  refine tq_g_iinc (i := 6) (fun v101 => [.ref 8, .null, .null, .long a3, .null, .int a5, .int v101]) (by decide +kernel) rfl (1 : Int32) kc_1 (fun _ => rfl) (fun v101 ev101 => ?_)
  replace h := h v101 ev101
  refine tq_s_goto (off := -45) (tgt := 20) (by decide +kernel) (by decide +kernel) ?_
  exact hB20 _ _ _ h
def wc_X2_addTo_68 (B5 : Int64 → Int32 → tq_S → Prop) (Q : tq_O → tq_S → Prop) (a3 : Int64) (a5 : Int32) (z : tq_S) : Prop := ∀ v101 : Int32, v101 = a5 + (1 : Int32) → B5 a3 v101 z
theorem ac_X2_addTo_68 {K : Nat × (Nat → Int32)} {x : Nat} {Q : tq_O → tq_S → Prop} {B5 : Int64 → Int32 → tq_S → Prop} {a3 : Int64} {a5 : Int32} {z : tq_S} (hB5 : ∀ (b3 : Int64) (b5 : Int32) (z : tq_S), B5 b3 b5 z → tq_T K 2 x mm_X2_addTo 5 [.ref 8, .null, .null, .long b3, .null, .int b5, .null] [] z Q) (h : wc_X2_addTo_68 B5 Q a3 a5 z) : tq_T K 2 x mm_X2_addTo 68 [.ref 8, .null, .null, .long a3, .null, .int a5, .null] [] z Q := by
  unfold wc_X2_addTo_68 at h
  refine tq_g_iinc (i := 5) (fun v101 => [.ref 8, .null, .null, .long a3, .null, .int v101, .null]) (by decide +kernel) rfl (1 : Int32) kc_1 (fun _ => rfl) (fun v101 ev101 => ?_)
  replace h := h v101 ev101
  refine tq_s_goto (off := -66) (tgt := 5) (by decide +kernel) (by decide +kernel) ?_
  exact hB5 _ _ _ h
def wb_X2_addTo_20 (B5 : Int64 → Int32 → tq_S → Prop) (B20 : Int64 → Int32 → tq_S → Prop) (Q : tq_O → tq_S → Prop) (a3 : Int64) (a5 : Int32) (a6 : Int32) (z : tq_S) : Prop := (((tq_fi z 64) ≤ a6 → wc_X2_addTo_68 B5 Q a3 a5 z) ∧ (¬ (tq_fi z 64) ≤ a6 → wm_X1_holds a6 a5 z (tq_wi fun r102 z101 => ((r102 = 0 → wc_X2_addTo_62 B5 B20 Q a3 a5 a6 z101) ∧ (¬ r102 = 0 → wm_X2_codeAt a6 a5 z101 (tq_wi fun r104 z103 => ∀ v105 : Int64, v105 = (((31 : Int64) * a3) + (Int32.toInt64 r104)) → wc_X2_addTo_62 B5 B20 Q v105 a5 a6 z103))))))
def wc_X2_addTo_20 (B5 : Int64 → Int32 → tq_S → Prop) (Q : tq_O → tq_S → Prop) (a3 : Int64) (a5 : Int32) (a6 : Int32) (z : tq_S) : Prop := tq_lp (σ := Int64 × Int32 × tq_S) (fun B s => wb_X2_addTo_20 B5 (fun b3 b6 z => B (b3, b6, z)) Q s.1 a5 s.2.1 s.2.2) (a3, a6, z)
theorem ab_X2_addTo_20 {K : Nat × (Nat → Int32)} {x : Nat} {Q : tq_O → tq_S → Prop} {B5 : Int64 → Int32 → tq_S → Prop} {B20 : Int64 → Int32 → tq_S → Prop} {a3 : Int64} {a5 : Int32} {a6 : Int32} {z : tq_S} (hB5 : ∀ (b3 : Int64) (b5 : Int32) (z : tq_S), B5 b3 b5 z → tq_T K 2 x mm_X2_addTo 5 [.ref 8, .null, .null, .long b3, .null, .int b5, .null] [] z Q) (hB20 : ∀ (b3 : Int64) (b6 : Int32) (z : tq_S), B20 b3 b6 z → tq_T K 2 x mm_X2_addTo 20 [.ref 8, .null, .null, .long b3, .null, .int a5, .int b6] [] z Q) (h : wb_X2_addTo_20 B5 B20 Q a3 a5 a6 z) : tq_T K 2 x mm_X2_addTo 20 [.ref 8, .null, .null, .long a3, .null, .int a5, .int a6] [] z Q := by
  unfold wb_X2_addTo_20 at h
  refine tq_s_iload (i := 6) (by decide +kernel) rfl ?_
  refine tq_s_aload_n (kk := 0) (by decide +kernel) rfl ?_
  refine fg_2_7_8 rfl (by decide +kernel) ?_
  refine fg_2_57_1 rfl (by decide +kernel) ?_
  refine tq_icmp_ge (off := 39) (tgt := 68) (by decide +kernel) (by decide +kernel) (fun hc => ?_) (fun hc => ?_)
  · replace h := h.1 hc
    exact tq_to (tq_lk1 (tq_lk1 (tq_lk1 (tq_lk1 (tq_lk1 (tq_lk1 (tq_ld1 tq_l0))))))) (ac_X2_addTo_68 hB5 h)
  · replace h := h.2 hc
    refine tq_s_aload_n (kk := 0) (by decide +kernel) rfl ?_
    refine fg_2_7_8 rfl (by decide +kernel) ?_
    refine tq_s_iload (i := 6) (by decide +kernel) rfl ?_
    refine tq_s_iload (i := 5) (by decide +kernel) rfl ?_
    refine tq_callVN (as := [.int a6, .int a5]) (st := []) (d1 := 0) (x1 := 0) (x2 := x) (by decide +kernel) ln_2_84 mf_X1_holds rfl sh_1 rfl (by decide) np_X1_holds rfl (Nat.le_of_ble_eq_true rfl) (by decide) (Nat.zero_add _).symm (tq_M_mono (am_X1_holds h) ?_)
    refine tq_wi_e (fun r102 z101 h => ?_)
    refine tq_if_eq (off := 19) (tgt := 62) (by decide +kernel) (by decide +kernel) (fun hc => ?_) (fun hc => ?_)
    · replace h := h.1 hc
      exact ac_X2_addTo_62 hB5 hB20 h
    · replace h := h.2 hc
      refine tq_s_ldc2 (i := 87) (v := (31 : Int64)) (by decide +kernel) (by decide +kernel) ?_
      refine tq_s_lload_n (kk := 3) (by decide +kernel) rfl ?_
      refine tq_s_lmul (by decide +kernel) ?_
      refine tq_s_aload_n (kk := 0) (by decide +kernel) rfl ?_
      refine tq_s_iload (i := 6) (by decide +kernel) rfl ?_
      refine tq_s_iload (i := 5) (by decide +kernel) rfl ?_
      refine tq_callV (as := [.int a6, .int a5]) (st := [.long ((31 : Int64) * a3)]) (d1 := 1) (x1 := 0) (x2 := x) (by decide +kernel) ln_2_89 mf_X2_codeAt rfl sh_8 rfl (by decide) np_X2_codeAt rfl (Nat.le_of_ble_eq_true rfl) (by decide) (Nat.zero_add _).symm (tq_M_mono (am_X2_codeAt h) ?_)
      refine tq_wi_e (fun r104 z103 h => ?_)
      refine tq_s_i2l (by decide +kernel) ?_
      refine tq_s_ladd (by decide +kernel) ?_
      refine tq_g_lstore_n (kk := 3) (fun v105 => [.ref 8, .null, .null, .long v105, .null, .int a5, .int a6]) (by decide +kernel) (by decide) (fun _ => rfl) (fun v105 ev105 => ?_)
      replace h := h v105 ev105
      exact ac_X2_addTo_62 hB5 hB20 h
theorem ac_X2_addTo_20 {K : Nat × (Nat → Int32)} {x : Nat} {Q : tq_O → tq_S → Prop} {B5 : Int64 → Int32 → tq_S → Prop} {a3 : Int64} {a5 : Int32} {a6 : Int32} {z : tq_S} (hB5 : ∀ (b3 : Int64) (b5 : Int32) (z : tq_S), B5 b3 b5 z → tq_T K 2 x mm_X2_addTo 5 [.ref 8, .null, .null, .long b3, .null, .int b5, .null] [] z Q) (h : wc_X2_addTo_20 B5 Q a3 a5 a6 z) : tq_T K 2 x mm_X2_addTo 20 [.ref 8, .null, .null, .long a3, .null, .int a5, .int a6] [] z Q :=
  tq_lp_T (σ := Int64 × Int32 × tq_S) (s := (a3, a6, z)) (G := fun s => tq_T K 2 x mm_X2_addTo 20 [.ref 8, .null, .null, .long s.1, .null, .int a5, .int s.2.1] [] s.2.2 Q) (fun B hB s h => ab_X2_addTo_20 hB5 (fun b3 b6 z h => hB (b3, b6, z) h) h) h
def wb_X2_addTo_5 (B5 : Int64 → Int32 → tq_S → Prop) (Q : tq_O → tq_S → Prop) (a3 : Int64) (a5 : Int32) (z : tq_S) : Prop := (((tq_fi z 65) ≤ a5 → Q (.inl (some (.long a3))) z) ∧ (¬ (tq_fi z 65) ≤ a5 → wc_X2_addTo_20 B5 Q a3 a5 (0 : Int32) z))
def wc_X2_addTo_5 (Q : tq_O → tq_S → Prop) (a3 : Int64) (a5 : Int32) (z : tq_S) : Prop := tq_lp (σ := Int64 × Int32 × tq_S) (fun B s => wb_X2_addTo_5 (fun b3 b5 z => B (b3, b5, z)) Q s.1 s.2.1 s.2.2) (a3, a5, z)
theorem ab_X2_addTo_5 {K : Nat × (Nat → Int32)} {x : Nat} {Q : tq_O → tq_S → Prop} {B5 : Int64 → Int32 → tq_S → Prop} {a3 : Int64} {a5 : Int32} {z : tq_S} (hB5 : ∀ (b3 : Int64) (b5 : Int32) (z : tq_S), B5 b3 b5 z → tq_T K 2 x mm_X2_addTo 5 [.ref 8, .null, .null, .long b3, .null, .int b5, .null] [] z Q) (h : wb_X2_addTo_5 B5 Q a3 a5 z) : tq_T K 2 x mm_X2_addTo 5 [.ref 8, .null, .null, .long a3, .null, .int a5, .null] [] z Q := by
  unfold wb_X2_addTo_5 at h
  refine tq_s_iload (i := 5) (by decide +kernel) rfl ?_
  refine tq_s_aload_n (kk := 0) (by decide +kernel) rfl ?_
  refine fg_2_7_8 rfl (by decide +kernel) ?_
  refine fg_2_65_1 rfl (by decide +kernel) ?_
  refine tq_icmp_ge (off := 60) (tgt := 74) (by decide +kernel) (by decide +kernel) (fun hc => ?_) (fun hc => ?_)
  · replace h := h.1 hc
    refine tq_s_lload_n (kk := 3) (by decide +kernel) rfl ?_
    exact tq_ret_l (st := []) (by decide +kernel) rfl h
  · replace h := h.2 hc
    refine tq_k_ic (n := 0) (v := (0 : Int32)) (by decide +kernel) kc_0 ?_
    refine tq_s_istore (i := 6) (L9 := [.ref 8, .null, .null, .long a3, .null, .int a5, .int (0 : Int32)]) (by decide +kernel) (by decide) rfl ?_
    exact ac_X2_addTo_20 hB5 h
theorem ac_X2_addTo_5 {K : Nat × (Nat → Int32)} {x : Nat} {Q : tq_O → tq_S → Prop} {a3 : Int64} {a5 : Int32} {z : tq_S} (h : wc_X2_addTo_5 Q a3 a5 z) : tq_T K 2 x mm_X2_addTo 5 [.ref 8, .null, .null, .long a3, .null, .int a5, .null] [] z Q :=
  tq_lp_T (σ := Int64 × Int32 × tq_S) (s := (a3, a5, z)) (G := fun s => tq_T K 2 x mm_X2_addTo 5 [.ref 8, .null, .null, .long s.1, .null, .int s.2.1, .null] [] s.2.2 Q) (fun B hB s h => ab_X2_addTo_5 (fun b3 b5 z h => hB (b3, b5, z) h) h) h
def wm_X2_addTo (a1 : Int64) (z : tq_S) (Q : tq_O → tq_S → Prop) : Prop := wc_X2_addTo_5 Q a1 (0 : Int32) z
theorem am_X2_addTo {K : Nat × (Nat → Int32)} {x : Nat} {z : tq_S} {Q : tq_O → tq_S → Prop} {a1 : Int64} (h : wm_X2_addTo a1 z Q) : tq_M K 2 x mm_X2_addTo [.ref 8, .long a1] z Q := by
  unfold wm_X2_addTo at h
  refine tq_enter (L := [.ref 8, .long a1, .null, .null, .null, .null, .null]) mf_X2_addTo.1 rfl rfl (Nat.le_of_ble_eq_true rfl) ?_
  refine tq_s_lload_n (kk := 1) (by decide +kernel) rfl ?_
  refine tq_s_lstore_n (kk := 3) (L9 := [.ref 8, .long a1, .null, .long a1, .null, .null, .null]) (by decide +kernel) (by decide) rfl ?_
  refine tq_k_ic (n := 0) (v := (0 : Int32)) (by decide +kernel) kc_0 ?_
  refine tq_s_istore (i := 5) (L9 := [.ref 8, .long a1, .null, .long a1, .null, .int (0 : Int32), .null]) (by decide +kernel) (by decide) rfl ?_
  exact tq_to (tq_lk1 (tq_ld1 (tq_lk1 (tq_lk1 (tq_lk1 (tq_lk1 (tq_lk1 tq_l0))))))) (ac_X2_addTo_5 h)
def wb_X8_addTo_15 (B15 : Int64 → Int32 → tq_S → Prop) (Q : tq_O → tq_S → Prop) (a3 : Int64) (a5 : Int32) (z : tq_S) : Prop := (((tq_fi z 1477) ≤ a5 → Q (.inl (some (.long a3))) z) ∧ (¬ (tq_fi z 1477) ≤ a5 → vp_in a5 6 ∧ ∀ v101 : Int64, v101 = (((31 : Int64) * a3) + (Int32.toInt64 (tq_ai z 25 (Int32.toNatClampNeg a5)))) → vp_in a5 6 ∧ ∀ v102 : Int64, v102 = (((31 : Int64) * v101) + (Int32.toInt64 (tq_ai z 26 (Int32.toNatClampNeg a5)))) → ∀ v103 : Int32, v103 = a5 + (1 : Int32) → B15 v102 v103 z))
def wc_X8_addTo_15 (Q : tq_O → tq_S → Prop) (a3 : Int64) (a5 : Int32) (z : tq_S) : Prop := tq_lp (σ := Int64 × Int32 × tq_S) (fun B s => wb_X8_addTo_15 (fun b3 b5 z => B (b3, b5, z)) Q s.1 s.2.1 s.2.2) (a3, a5, z)
theorem ab_X8_addTo_15 {K : Nat × (Nat → Int32)} {x : Nat} {Q : tq_O → tq_S → Prop} {B15 : Int64 → Int32 → tq_S → Prop} {a3 : Int64} {a5 : Int32} {z : tq_S} (hB15 : ∀ (b3 : Int64) (b5 : Int32) (z : tq_S), B15 b3 b5 z → tq_T K 0 x mm_X8_addTo 15 [.ref 23, .null, .null, .long b3, .null, .int b5] [] z Q) (h : wb_X8_addTo_15 B15 Q a3 a5 z) : tq_T K 0 x mm_X8_addTo 15 [.ref 23, .null, .null, .long a3, .null, .int a5] [] z Q := by
  unfold wb_X8_addTo_15 at h
  refine tq_s_iload (i := 5) (by decide +kernel) rfl ?_
  refine tq_s_aload_n (kk := 0) (by decide +kernel) rfl ?_
  refine fg_8_27_23 rfl (by decide +kernel) ?_
  refine tq_icmp_ge (off := 39) (tgt := 60) (by decide +kernel) (by decide +kernel) (fun hc => ?_) (fun hc => ?_)
  · replace h := h.1 hc
    refine tq_s_lload_n (kk := 3) (by decide +kernel) rfl ?_
    exact tq_ret_l (st := []) (by decide +kernel) rfl h
  · replace h := h.2 hc
    refine tq_s_ldc2 (i := 74) (v := (31 : Int64)) (by decide +kernel) (by decide +kernel) ?_
    refine tq_s_lload_n (kk := 3) (by decide +kernel) rfl ?_
    refine tq_s_lmul (by decide +kernel) ?_
    refine tq_s_aload_n (kk := 0) (by decide +kernel) rfl ?_
    refine fg_8_13_23 rfl (by decide +kernel) ?_
    refine tq_s_iload (i := 5) (by decide +kernel) rfl ?_
    refine tq_s_iald (by decide +kernel) sh_25 h.1 ?_
    replace h := h.2
    refine tq_s_i2l (by decide +kernel) ?_
    refine tq_s_ladd (by decide +kernel) ?_
    refine tq_g_lstore_n (kk := 3) (fun v101 => [.ref 23, .null, .null, .long v101, .null, .int a5]) (by decide +kernel) (by decide) (fun _ => rfl) (fun v101 ev101 => ?_)
    replace h := h v101 ev101
    refine tq_s_ldc2 (i := 74) (v := (31 : Int64)) (by decide +kernel) (by decide +kernel) ?_
    refine tq_s_lload_n (kk := 3) (by decide +kernel) rfl ?_
    refine tq_s_lmul (by decide +kernel) ?_
    refine tq_s_aload_n (kk := 0) (by decide +kernel) rfl ?_
    refine fg_8_17_23 rfl (by decide +kernel) ?_
    refine tq_s_iload (i := 5) (by decide +kernel) rfl ?_
    refine tq_s_iald (by decide +kernel) sh_26 h.1 ?_
    replace h := h.2
    refine tq_s_i2l (by decide +kernel) ?_
    refine tq_s_ladd (by decide +kernel) ?_
    refine tq_g_lstore_n (kk := 3) (fun v102 => [.ref 23, .null, .null, .long v102, .null, .int a5]) (by decide +kernel) (by decide) (fun _ => rfl) (fun v102 ev102 => ?_)
    replace h := h v102 ev102
    refine tq_g_iinc (i := 5) (fun v103 => [.ref 23, .null, .null, .long v102, .null, .int v103]) (by decide +kernel) rfl (1 : Int32) kc_1 (fun _ => rfl) (fun v103 ev103 => ?_)
    replace h := h v103 ev103
    refine tq_s_goto (off := -42) (tgt := 15) (by decide +kernel) (by decide +kernel) ?_
    exact hB15 _ _ _ h
theorem ac_X8_addTo_15 {K : Nat × (Nat → Int32)} {x : Nat} {Q : tq_O → tq_S → Prop} {a3 : Int64} {a5 : Int32} {z : tq_S} (h : wc_X8_addTo_15 Q a3 a5 z) : tq_T K 0 x mm_X8_addTo 15 [.ref 23, .null, .null, .long a3, .null, .int a5] [] z Q :=
  tq_lp_T (σ := Int64 × Int32 × tq_S) (s := (a3, a5, z)) (G := fun s => tq_T K 0 x mm_X8_addTo 15 [.ref 23, .null, .null, .long s.1, .null, .int s.2.1] [] s.2.2 Q) (fun B hB s h => ab_X8_addTo_15 (fun b3 b5 z h => hB (b3, b5, z) h) h) h
def wm_X8_addTo (a1 : Int64) (z : tq_S) (Q : tq_O → tq_S → Prop) : Prop := ∀ v1 : Int64, v1 = (((31 : Int64) * a1) + (Int32.toInt64 (tq_fi z 1477))) → wc_X8_addTo_15 Q v1 (0 : Int32) z
theorem am_X8_addTo {K : Nat × (Nat → Int32)} {x : Nat} {z : tq_S} {Q : tq_O → tq_S → Prop} {a1 : Int64} (h : wm_X8_addTo a1 z Q) : tq_M K 0 x mm_X8_addTo [.ref 23, .long a1] z Q := by
  unfold wm_X8_addTo at h
  refine tq_enter (L := [.ref 23, .long a1, .null, .null, .null, .null]) mf_X8_addTo.1 rfl rfl (Nat.le_of_ble_eq_true rfl) ?_
  refine tq_s_ldc2 (i := 74) (v := (31 : Int64)) (by decide +kernel) (by decide +kernel) ?_
  refine tq_s_lload_n (kk := 1) (by decide +kernel) rfl ?_
  refine tq_s_lmul (by decide +kernel) ?_
  refine tq_s_aload_n (kk := 0) (by decide +kernel) rfl ?_
  refine fg_8_27_23 rfl (by decide +kernel) ?_
  refine tq_s_i2l (by decide +kernel) ?_
  refine tq_s_ladd (by decide +kernel) ?_
  refine tq_g_lstore_n (kk := 3) (fun v1 => [.ref 23, .long a1, .null, .long v1, .null, .null]) (by decide +kernel) (by decide) (fun _ => rfl) (fun v1 ev1 => ?_)
  replace h := h v1 ev1
  refine tq_k_ic (n := 0) (v := (0 : Int32)) (by decide +kernel) kc_0 ?_
  refine tq_s_istore (i := 5) (L9 := [.ref 23, .long a1, .null, .long v1, .null, .int (0 : Int32)]) (by decide +kernel) (by decide) rfl ?_
  exact tq_to (tq_lk1 (tq_ld1 (tq_lk1 (tq_lk1 (tq_lk1 (tq_lk1 tq_l0)))))) (ac_X8_addTo_15 h)
def wb_X11_checksum_41 (B41 : Int64 → Int32 → tq_S → Prop) (Q : tq_O → tq_S → Prop) (a1 : Int64) (a3 : Int32) (z : tq_S) : Prop := (((tq_fi z 13) ≤ a3 → Q (.inl (some (.long a1))) z) ∧ (¬ (tq_fi z 13) ≤ a3 → vp_in a3 320 ∧ ∀ v101 : Int64, v101 = (((31 : Int64) * a1) + (Int32.toInt64 (tq_ai z 50 (Int32.toNatClampNeg a3)))) → ∀ v102 : Int32, v102 = a3 + (1 : Int32) → B41 v101 v102 z))
def wc_X11_checksum_41 (Q : tq_O → tq_S → Prop) (a1 : Int64) (a3 : Int32) (z : tq_S) : Prop := tq_lp (σ := Int64 × Int32 × tq_S) (fun B s => wb_X11_checksum_41 (fun b1 b3 z => B (b1, b3, z)) Q s.1 s.2.1 s.2.2) (a1, a3, z)
theorem ab_X11_checksum_41 {K : Nat × (Nat → Int32)} {x : Nat} {Q : tq_O → tq_S → Prop} {B41 : Int64 → Int32 → tq_S → Prop} {a1 : Int64} {a3 : Int32} {z : tq_S} (hB41 : ∀ (b1 : Int64) (b3 : Int32) (z : tq_S), B41 b1 b3 z → tq_T K 3 x mm_X11_checksum 41 [.ref 0, .long b1, .null, .int b3] [] z Q) (h : wb_X11_checksum_41 B41 Q a1 a3 z) : tq_T K 3 x mm_X11_checksum 41 [.ref 0, .long a1, .null, .int a3] [] z Q := by
  unfold wb_X11_checksum_41 at h
  refine tq_s_iload_n (kk := 3) (by decide +kernel) rfl ?_
  refine tq_s_aload_n (kk := 0) (by decide +kernel) rfl ?_
  refine fg_11_97_0 rfl (by decide +kernel) ?_
  refine tq_icmp_ge (off := 23) (tgt := 69) (by decide +kernel) (by decide +kernel) (fun hc => ?_) (fun hc => ?_)
  · replace h := h.1 hc
    refine tq_s_lload_n (kk := 1) (by decide +kernel) rfl ?_
    exact tq_ret_l (st := []) (by decide +kernel) rfl h
  · replace h := h.2 hc
    refine tq_s_ldc2 (i := 448) (v := (31 : Int64)) (by decide +kernel) (by decide +kernel) ?_
    refine tq_s_lload_n (kk := 1) (by decide +kernel) rfl ?_
    refine tq_s_lmul (by decide +kernel) ?_
    refine tq_s_aload_n (kk := 0) (by decide +kernel) rfl ?_
    refine fg_11_93_0 rfl (by decide +kernel) ?_
    refine tq_s_iload_n (kk := 3) (by decide +kernel) rfl ?_
    refine tq_s_cald (by decide +kernel) sh_50 h.1 ?_
    replace h := h.2
    refine tq_s_i2l (by decide +kernel) ?_
    refine tq_s_ladd (by decide +kernel) ?_
    refine tq_g_lstore_n (kk := 1) (fun v101 => [.ref 0, .long v101, .null, .int a3]) (by decide +kernel) (by decide) (fun _ => rfl) (fun v101 ev101 => ?_)
    replace h := h v101 ev101
    refine tq_g_iinc (i := 3) (fun v102 => [.ref 0, .long v101, .null, .int v102]) (by decide +kernel) rfl (1 : Int32) kc_1 (fun _ => rfl) (fun v102 ev102 => ?_)
    replace h := h v102 ev102
    refine tq_s_goto (off := -25) (tgt := 41) (by decide +kernel) (by decide +kernel) ?_
    exact hB41 _ _ _ h
theorem ac_X11_checksum_41 {K : Nat × (Nat → Int32)} {x : Nat} {Q : tq_O → tq_S → Prop} {a1 : Int64} {a3 : Int32} {z : tq_S} (h : wc_X11_checksum_41 Q a1 a3 z) : tq_T K 3 x mm_X11_checksum 41 [.ref 0, .long a1, .null, .int a3] [] z Q :=
  tq_lp_T (σ := Int64 × Int32 × tq_S) (s := (a1, a3, z)) (G := fun s => tq_T K 3 x mm_X11_checksum 41 [.ref 0, .long s.1, .null, .int s.2.1] [] s.2.2 Q) (fun B hB s h => ab_X11_checksum_41 (fun b1 b3 z h => hB (b1, b3, z) h) h) h
def wc_X11_checksum_30 (Q : tq_O → tq_S → Prop) (a1 : Int64) (z : tq_S) : Prop := wm_X8_addTo a1 z (tq_wl fun r102 z101 => wc_X11_checksum_41 Q r102 (0 : Int32) z101)
theorem ac_X11_checksum_30 {K : Nat × (Nat → Int32)} {x : Nat} {Q : tq_O → tq_S → Prop} {a1 : Int64} {z : tq_S} (h : wc_X11_checksum_30 Q a1 z) : tq_T K 3 x mm_X11_checksum 30 [.ref 0, .long a1, .null, .null] [] z Q := by
  unfold wc_X11_checksum_30 at h
  refine tq_s_aload_n (kk := 0) (by decide +kernel) rfl ?_
  refine fg_11_56_0 rfl (by decide +kernel) ?_
  refine tq_s_lload_n (kk := 1) (by decide +kernel) rfl ?_
  refine tq_callVN (as := [.long a1]) (st := []) (d1 := 0) (x1 := 0) (x2 := x) (by decide +kernel) ln_11_447 mf_X8_addTo rfl sh_23 rfl (by decide) np_X8_addTo rfl (Nat.le_of_ble_eq_true rfl) (by decide) (Nat.zero_add _).symm (tq_M_mono (am_X8_addTo h) ?_)
  refine tq_wl_e (fun r102 z101 h => ?_)
  refine tq_s_lstore_n (kk := 1) (L9 := [.ref 0, .long r102, .null, .null]) (by decide +kernel) (by decide) rfl ?_
  refine tq_k_ic (n := 0) (v := (0 : Int32)) (by decide +kernel) kc_0 ?_
  refine tq_s_istore_n (kk := 3) (L9 := [.ref 0, .long r102, .null, .int (0 : Int32)]) (by decide +kernel) (by decide) rfl ?_
  exact ac_X11_checksum_41 h
def wm_X11_checksum  (z : tq_S) (Q : tq_O → tq_S → Prop) : Prop := wm_X1_addTo (7 : Int64) z (tq_wl fun r2 z1 => (((tq_fi z1 516) = 0 → wc_X11_checksum_30 Q r2 z1) ∧ (¬ (tq_fi z1 516) = 0 → wm_X2_addTo r2 z1 (tq_wl fun r4 z3 => wc_X11_checksum_30 Q r4 z3))))
theorem am_X11_checksum {K : Nat × (Nat → Int32)} {x : Nat} {z : tq_S} {Q : tq_O → tq_S → Prop}  (h : wm_X11_checksum z Q) : tq_M K 3 x mm_X11_checksum [.ref 0] z Q := by
  unfold wm_X11_checksum at h
  refine tq_enter (L := [.ref 0, .null, .null, .null]) mf_X11_checksum.1 rfl rfl (Nat.le_of_ble_eq_true rfl) ?_
  refine tq_s_aload_n (kk := 0) (by decide +kernel) rfl ?_
  refine fg_11_10_0 rfl (by decide +kernel) ?_
  refine tq_s_ldc2 (i := 440) (v := (7 : Int64)) (by decide +kernel) (by decide +kernel) ?_
  refine tq_callVN (as := [.long (7 : Int64)]) (st := []) (d1 := 1) (x1 := 0) (x2 := x) (by decide +kernel) ln_11_442 mf_X1_addTo rfl sh_1 rfl (by decide) np_X1_addTo rfl (Nat.le_of_ble_eq_true rfl) (by decide) (Nat.zero_add _).symm (tq_M_mono (am_X1_addTo h) ?_)
  refine tq_wl_e (fun r2 z1 h => ?_)
  refine tq_s_lstore_n (kk := 1) (L9 := [.ref 0, .long r2, .null, .null]) (by decide +kernel) (by decide) rfl ?_
  refine tq_s_aload_n (kk := 0) (by decide +kernel) rfl ?_
  refine fg_11_28_0 rfl (by decide +kernel) ?_
  refine fg_11_238_8 rfl (by decide +kernel) ?_
  refine tq_if_eq (off := 12) (tgt := 30) (by decide +kernel) (by decide +kernel) (fun hc => ?_) (fun hc => ?_)
  · replace h := h.1 hc
    exact ac_X11_checksum_30 h
  · replace h := h.2 hc
    refine tq_s_aload_n (kk := 0) (by decide +kernel) rfl ?_
    refine fg_11_28_0 rfl (by decide +kernel) ?_
    refine tq_s_lload_n (kk := 1) (by decide +kernel) rfl ?_
    refine tq_callVN (as := [.long r2]) (st := []) (d1 := 2) (x1 := 0) (x2 := x) (by decide +kernel) ln_11_446 mf_X2_addTo rfl sh_8 rfl (by decide) np_X2_addTo rfl (Nat.le_of_ble_eq_true rfl) (by decide) (Nat.zero_add _).symm (tq_M_mono (am_X2_addTo h) ?_)
    refine tq_wl_e (fun r4 z3 h => ?_)
    refine tq_s_lstore_n (kk := 1) (L9 := [.ref 0, .long r4, .null, .null]) (by decide +kernel) (by decide) rfl ?_
    exact ac_X11_checksum_30 h
def wm_X11_countsAgree  (z : tq_S) (Q : tq_O → tq_S → Prop) : Prop := wm_X1_isPlain z (tq_wi fun r2 z1 => ((r2 = 0 → Q (.inl (some (.int (1 : Int32)))) z1) ∧ (¬ r2 = 0 → wm_X5_total z1 (tq_wl fun r4 z3 => wm_X3_countCovers z3 (tq_wl fun r6 z5 => ((¬ r4 = r6 → Q (.inl (some (.int (0 : Int32)))) z5) ∧ (r4 = r6 → Q (.inl (some (.int (1 : Int32)))) z5)))))))
theorem am_X11_countsAgree {K : Nat × (Nat → Int32)} {x : Nat} {z : tq_S} {Q : tq_O → tq_S → Prop}  (h : wm_X11_countsAgree z Q) : tq_M K 5 x mm_X11_countsAgree [.ref 0] z Q := by
  unfold wm_X11_countsAgree at h
  refine tq_enter (L := [.ref 0]) mf_X11_countsAgree.1 rfl rfl (Nat.le_of_ble_eq_true rfl) ?_
  refine tq_s_aload_n (kk := 0) (by decide +kernel) rfl ?_
  refine fg_11_10_0 rfl (by decide +kernel) ?_
  refine tq_callVN (as := []) (st := []) (d1 := 4) (x1 := 0) (x2 := x) (by decide +kernel) ln_11_199 mf_X1_isPlain rfl sh_1 rfl (by decide) np_X1_isPlain rfl (Nat.le_of_ble_eq_true rfl) (by decide) (Nat.zero_add _).symm (tq_M_mono (am_X1_isPlain h) ?_)
  refine tq_wi_e (fun r2 z1 h => ?_)
  refine tq_if_eq (off := 25) (tgt := 32) (by decide +kernel) (by decide +kernel) (fun hc => ?_) (fun hc => ?_)
  · replace h := h.1 hc
    refine tq_k_ic (n := 1) (v := (1 : Int32)) (by decide +kernel) kc_1 ?_
    refine tq_s_goto (off := 4) (tgt := 37) (by decide +kernel) (by decide +kernel) ?_
    exact tq_ret_z (st := []) (ty := .boolean) (by decide +kernel) (by decide +kernel) rfl h
  · replace h := h.2 hc
    refine tq_s_aload_n (kk := 0) (by decide +kernel) rfl ?_
    refine fg_11_21_0 rfl (by decide +kernel) ?_
    refine tq_callVN (as := []) (st := []) (d1 := 3) (x1 := 0) (x2 := x) (by decide +kernel) ln_11_192 mf_X5_total rfl sh_2 rfl (by decide) np_X5_total rfl (Nat.le_of_ble_eq_true rfl) (by decide) (Nat.zero_add _).symm (tq_M_mono (am_X5_total h) ?_)
    refine tq_wl_e (fun r4 z3 h => ?_)
    refine tq_s_aload_n (kk := 0) (by decide +kernel) rfl ?_
    refine fg_11_42_0 rfl (by decide +kernel) ?_
    refine tq_s_aload_n (kk := 0) (by decide +kernel) rfl ?_
    refine fg_11_10_0 rfl (by decide +kernel) ?_
    refine tq_callVN (as := [.ref 1]) (st := [.long r4]) (d1 := 3) (x1 := 0) (x2 := x) (by decide +kernel) ln_11_204 mf_X3_countCovers rfl sh_16 rfl (by decide) np_X3_countCovers rfl (Nat.le_of_ble_eq_true rfl) (by decide) (Nat.zero_add _).symm (tq_M_mono (am_X3_countCovers h) ?_)
    refine tq_wl_e (fun r6 z5 h => ?_)
    refine tq_lcmp_ne (off := 7) (tgt := 36) (by decide +kernel) (by decide +kernel) (by decide +kernel) (fun hc => ?_) (fun hc => ?_)
    · replace h := h.1 hc
      refine tq_k_ic (n := 0) (v := (0 : Int32)) (by decide +kernel) kc_0 ?_
      exact tq_ret_z (st := []) (ty := .boolean) (by decide +kernel) (by decide +kernel) rfl h
    · replace h := h.2 hc
      refine tq_k_ic (n := 1) (v := (1 : Int32)) (by decide +kernel) kc_1 ?_
      refine tq_s_goto (off := 4) (tgt := 37) (by decide +kernel) (by decide +kernel) ?_
      exact tq_ret_z (st := []) (ty := .boolean) (by decide +kernel) (by decide +kernel) rfl h
def wc_X11_numberIsSound_91 (Q : tq_O → tq_S → Prop) (a1 : Int64) (a3 : Int64) (s0 : Int32) (z : tq_S) : Prop := (((a3 + (1 : Int64)) < a1 → wm_X5_make (a3 + (1 : Int64)) z (tq_wv fun z101 => ((s0 = 0 → Q (.inl (some (.int (0 : Int32)))) z101) ∧ (¬ s0 = 0 → wm_X5_rank (tq_fl z101 136) (tq_fl z101 137) z101 (tq_wl fun r103 z102 => ((¬ r103 = (a3 + (1 : Int64)) → Q (.inl (some (.int (0 : Int32)))) z102) ∧ (r103 = (a3 + (1 : Int64)) → Q (.inl (some (.int (1 : Int32)))) z102))))))) ∧ (¬ (a3 + (1 : Int64)) < a1 → tq_nz s0 ∧ Q (.inl (some (.int s0))) z))
theorem ac_X11_numberIsSound_91 {K : Nat × (Nat → Int32)} {x : Nat} {Q : tq_O → tq_S → Prop} {a1 : Int64} {a3 : Int64} {s0 : Int32} {z : tq_S} (h : wc_X11_numberIsSound_91 Q a1 a3 s0 z) : tq_T K 4 x mm_X11_numberIsSound 91 [.ref 0, .long a1, .null, .long a3, .null, .null] [.int s0] z Q := by
  unfold wc_X11_numberIsSound_91 at h
  refine tq_s_istore (i := 5) (L9 := [.ref 0, .long a1, .null, .long a3, .null, .int s0]) (by decide +kernel) (by decide) rfl ?_
  refine tq_s_lload_n (kk := 3) (by decide +kernel) rfl ?_
  refine tq_k_lc (n := 1) (v := (1 : Int64)) (by decide +kernel) (by decide +kernel) ?_
  refine tq_s_ladd (by decide +kernel) ?_
  refine tq_s_lload_n (kk := 1) (by decide +kernel) rfl ?_
  refine tq_lcmp_lt (off := 6) (tgt := 104) (by decide +kernel) (by decide +kernel) (by decide +kernel) (fun hc => ?_) (fun hc => ?_)
  · replace h := h.1 hc
    refine tq_s_aload_n (kk := 0) (by decide +kernel) rfl ?_
    refine fg_11_21_0 rfl (by decide +kernel) ?_
    refine tq_s_lload_n (kk := 3) (by decide +kernel) rfl ?_
    refine tq_k_lc (n := 1) (v := (1 : Int64)) (by decide +kernel) (by decide +kernel) ?_
    refine tq_s_ladd (by decide +kernel) ?_
    refine tq_callVN (as := [.long (a3 + (1 : Int64))]) (st := []) (d1 := 3) (x1 := 0) (x2 := x) (by decide +kernel) ln_11_474 mf_X5_make rfl sh_2 rfl (by decide) np_X5_make rfl (Nat.le_of_ble_eq_true rfl) (by decide) (Nat.zero_add _).symm (tq_M_mono (am_X5_make h) ?_)
    refine tq_wv_e (fun z101 h => ?_)
    refine tq_s_iload (i := 5) (by decide +kernel) rfl ?_
    refine tq_if_eq (off := 35) (tgt := 151) (by decide +kernel) (by decide +kernel) (fun hc => ?_) (fun hc => ?_)
    · replace h := h.1 hc
      refine tq_k_ic (n := 0) (v := (0 : Int32)) (by decide +kernel) kc_0 ?_
      exact tq_ret_z (st := []) (ty := .boolean) (by decide +kernel) (by decide +kernel) rfl h
    · replace h := h.2 hc
      refine tq_s_aload_n (kk := 0) (by decide +kernel) rfl ?_
      refine fg_11_21_0 rfl (by decide +kernel) ?_
      refine tq_s_aload_n (kk := 0) (by decide +kernel) rfl ?_
      refine fg_11_21_0 rfl (by decide +kernel) ?_
      refine fg_11_477_2 rfl (by decide +kernel) ?_
      refine tq_s_aload_n (kk := 0) (by decide +kernel) rfl ?_
      refine fg_11_21_0 rfl (by decide +kernel) ?_
      refine fg_11_480_2 rfl (by decide +kernel) ?_
      refine tq_callVN (as := [.long (tq_fl z101 136), .long (tq_fl z101 137)]) (st := []) (d1 := 3) (x1 := 0) (x2 := x) (by decide +kernel) ln_11_249 mf_X5_rank rfl sh_2 rfl (by decide) np_X5_rank rfl (Nat.le_of_ble_eq_true rfl) (by decide) (Nat.zero_add _).symm (tq_M_mono (am_X5_rank h) ?_)
      refine tq_wl_e (fun r103 z102 h => ?_)
      refine tq_s_lload_n (kk := 3) (by decide +kernel) rfl ?_
      refine tq_k_lc (n := 1) (v := (1 : Int64)) (by decide +kernel) (by decide +kernel) ?_
      refine tq_s_ladd (by decide +kernel) ?_
      refine tq_lcmp_ne (off := 7) (tgt := 151) (by decide +kernel) (by decide +kernel) (by decide +kernel) (fun hc => ?_) (fun hc => ?_)
      · replace h := h.1 hc
        refine tq_k_ic (n := 0) (v := (0 : Int32)) (by decide +kernel) kc_0 ?_
        exact tq_ret_z (st := []) (ty := .boolean) (by decide +kernel) (by decide +kernel) rfl h
      · replace h := h.2 hc
        refine tq_k_ic (n := 1) (v := (1 : Int32)) (by decide +kernel) kc_1 ?_
        refine tq_s_goto (off := 4) (tgt := 152) (by decide +kernel) (by decide +kernel) ?_
        exact tq_ret_z (st := []) (ty := .boolean) (by decide +kernel) (by decide +kernel) rfl h
  · replace h := h.2 hc
    refine tq_s_iload (i := 5) (by decide +kernel) rfl ?_
    exact tq_ret_z (st := []) (ty := .boolean) (by decide +kernel) (tq_nz_f h.1).1 rfl h.2
def wc_X11_numberIsSound_90 (Q : tq_O → tq_S → Prop) (a1 : Int64) (a3 : Int64) (z : tq_S) : Prop := wc_X11_numberIsSound_91 Q a1 a3 (0 : Int32) z
theorem ac_X11_numberIsSound_90 {K : Nat × (Nat → Int32)} {x : Nat} {Q : tq_O → tq_S → Prop} {a1 : Int64} {a3 : Int64} {z : tq_S} (h : wc_X11_numberIsSound_90 Q a1 a3 z) : tq_T K 4 x mm_X11_numberIsSound 90 [.ref 0, .long a1, .null, .long a3, .null, .null] [] z Q := by
  unfold wc_X11_numberIsSound_90 at h
  refine tq_k_ic (n := 0) (v := (0 : Int32)) (by decide +kernel) kc_0 ?_
  exact ac_X11_numberIsSound_91 h
def wm_X11_numberIsSound  (z : tq_S) (Q : tq_O → tq_S → Prop) : Prop := ((¬ (tq_fi z 516) = 0 → wm_X5_total z (tq_wl fun r2 z1 => wm_X5_rank (tq_fl z1 517) (tq_fl z1 518) z1 (tq_wl fun r4 z3 => wm_X5_make r4 z3 (tq_wv fun z5 => ((¬ (tq_fl z5 136) = (tq_fl z5 517) → wc_X11_numberIsSound_90 Q r2 r4 z5) ∧ ((tq_fl z5 136) = (tq_fl z5 517) → ((¬ (tq_fl z5 137) = (tq_fl z5 518) → wc_X11_numberIsSound_90 Q r2 r4 z5) ∧ ((tq_fl z5 137) = (tq_fl z5 518) → wc_X11_numberIsSound_91 Q r2 r4 (1 : Int32) z5)))))))) ∧ ((tq_fi z 516) = 0 → Q (.inl (some (.int (1 : Int32)))) z))
theorem am_X11_numberIsSound {K : Nat × (Nat → Int32)} {x : Nat} {z : tq_S} {Q : tq_O → tq_S → Prop}  (h : wm_X11_numberIsSound z Q) : tq_M K 4 x mm_X11_numberIsSound [.ref 0] z Q := by
  unfold wm_X11_numberIsSound at h
  refine tq_enter (L := [.ref 0, .null, .null, .null, .null, .null]) mf_X11_numberIsSound.1 rfl rfl (Nat.le_of_ble_eq_true rfl) ?_
  refine tq_s_aload_n (kk := 0) (by decide +kernel) rfl ?_
  refine fg_11_28_0 rfl (by decide +kernel) ?_
  refine fg_11_238_8 rfl (by decide +kernel) ?_
  refine tq_if_ne (off := 5) (tgt := 12) (by decide +kernel) (by decide +kernel) (fun hc => ?_) (fun hc => ?_)
  · replace h := h.1 hc
    refine tq_s_aload_n (kk := 0) (by decide +kernel) rfl ?_
    refine fg_11_21_0 rfl (by decide +kernel) ?_
    refine tq_callVN (as := []) (st := []) (d1 := 3) (x1 := 0) (x2 := x) (by decide +kernel) ln_11_192 mf_X5_total rfl sh_2 rfl (by decide) np_X5_total rfl (Nat.le_of_ble_eq_true rfl) (by decide) (Nat.zero_add _).symm (tq_M_mono (am_X5_total h) ?_)
    refine tq_wl_e (fun r2 z1 h => ?_)
    refine tq_s_lstore_n (kk := 1) (L9 := [.ref 0, .long r2, .null, .null, .null, .null]) (by decide +kernel) (by decide) rfl ?_
    refine tq_s_aload_n (kk := 0) (by decide +kernel) rfl ?_
    refine fg_11_21_0 rfl (by decide +kernel) ?_
    refine tq_s_aload_n (kk := 0) (by decide +kernel) rfl ?_
    refine fg_11_28_0 rfl (by decide +kernel) ?_
    refine fg_11_243_8 rfl (by decide +kernel) ?_
    refine tq_s_aload_n (kk := 0) (by decide +kernel) rfl ?_
    refine fg_11_28_0 rfl (by decide +kernel) ?_
    refine fg_11_246_8 rfl (by decide +kernel) ?_
    refine tq_callVN (as := [.long (tq_fl z1 517), .long (tq_fl z1 518)]) (st := []) (d1 := 3) (x1 := 0) (x2 := x) (by decide +kernel) ln_11_249 mf_X5_rank rfl sh_2 rfl (by decide) np_X5_rank rfl (Nat.le_of_ble_eq_true rfl) (by decide) (Nat.zero_add _).symm (tq_M_mono (am_X5_rank h) ?_)
    refine tq_wl_e (fun r4 z3 h => ?_)
    refine tq_s_lstore_n (kk := 3) (L9 := [.ref 0, .long r2, .null, .long r4, .null, .null]) (by decide +kernel) (by decide) rfl ?_
    refine tq_s_aload_n (kk := 0) (by decide +kernel) rfl ?_
    refine fg_11_21_0 rfl (by decide +kernel) ?_
    refine tq_s_lload_n (kk := 3) (by decide +kernel) rfl ?_
    refine tq_callVN (as := [.long r4]) (st := []) (d1 := 3) (x1 := 0) (x2 := x) (by decide +kernel) ln_11_474 mf_X5_make rfl sh_2 rfl (by decide) np_X5_make rfl (Nat.le_of_ble_eq_true rfl) (by decide) (Nat.zero_add _).symm (tq_M_mono (am_X5_make h) ?_)
    refine tq_wv_e (fun z5 h => ?_)
    refine tq_s_aload_n (kk := 0) (by decide +kernel) rfl ?_
    refine fg_11_21_0 rfl (by decide +kernel) ?_
    refine fg_11_477_2 rfl (by decide +kernel) ?_
    refine tq_s_aload_n (kk := 0) (by decide +kernel) rfl ?_
    refine fg_11_28_0 rfl (by decide +kernel) ?_
    refine fg_11_243_8 rfl (by decide +kernel) ?_
    refine tq_lcmp_ne (off := 25) (tgt := 90) (by decide +kernel) (by decide +kernel) (by decide +kernel) (fun hc => ?_) (fun hc => ?_)
    · replace h := h.1 hc
      exact ac_X11_numberIsSound_90 h
    · replace h := h.2 hc
      refine tq_s_aload_n (kk := 0) (by decide +kernel) rfl ?_
      refine fg_11_21_0 rfl (by decide +kernel) ?_
      refine fg_11_480_2 rfl (by decide +kernel) ?_
      refine tq_s_aload_n (kk := 0) (by decide +kernel) rfl ?_
      refine fg_11_28_0 rfl (by decide +kernel) ?_
      refine fg_11_246_8 rfl (by decide +kernel) ?_
      refine tq_lcmp_ne (off := 7) (tgt := 90) (by decide +kernel) (by decide +kernel) (by decide +kernel) (fun hc => ?_) (fun hc => ?_)
      · replace h := h.1 hc
        exact ac_X11_numberIsSound_90 h
      · replace h := h.2 hc
        refine tq_k_ic (n := 1) (v := (1 : Int32)) (by decide +kernel) kc_1 ?_
        refine tq_s_goto (off := 4) (tgt := 91) (by decide +kernel) (by decide +kernel) ?_
        exact ac_X11_numberIsSound_91 h
  · replace h := h.2 hc
    refine tq_k_ic (n := 1) (v := (1 : Int32)) (by decide +kernel) kc_1 ?_
    exact tq_ret_z (st := []) (ty := .boolean) (by decide +kernel) (by decide +kernel) rfl h
def wb_X11_flipsAreSound_53 (B53 : Int32 → tq_S → Prop) (Q : tq_O → tq_S → Prop) (a1 : Int32) (a2 : Int32) (z : tq_S) : Prop := ((a1 ≤ a2 → Q (.inl (some (.int (1 : Int32)))) z) ∧ (¬ a1 ≤ a2 → wm_X2_squareOf a2 z (tq_wi fun r102 z101 => wm_X2_rightFlipped r102 z101 (tq_wl fun r104 z103 => wm_X2_downFlipped r102 z103 (tq_wl fun r106 z105 => wm_X7_flipsFromKept r104 r106 z105 (tq_wi fun r108 z107 => ((r108 = (1 : Int32) → ∀ v109 : Int32, v109 = a2 + (1 : Int32) → B53 v109 z107) ∧ (¬ r108 = (1 : Int32) → Q (.inl (some (.int (0 : Int32)))) z107))))))))
def wc_X11_flipsAreSound_53 (Q : tq_O → tq_S → Prop) (a1 : Int32) (a2 : Int32) (z : tq_S) : Prop := tq_lp (σ := Int32 × tq_S) (fun B s => wb_X11_flipsAreSound_53 (fun b2 z => B (b2, z)) Q a1 s.1 s.2) (a2, z)
theorem ab_X11_flipsAreSound_53 {K : Nat × (Nat → Int32)} {x : Nat} {Q : tq_O → tq_S → Prop} {B53 : Int32 → tq_S → Prop} {a1 : Int32} {a2 : Int32} {z : tq_S} (hB53 : ∀ (b2 : Int32) (z : tq_S), B53 b2 z → tq_T K 5 x mm_X11_flipsAreSound 53 [.ref 0, .int a1, .int b2, .null] [] z Q) (h : wb_X11_flipsAreSound_53 B53 Q a1 a2 z) : tq_T K 5 x mm_X11_flipsAreSound 53 [.ref 0, .int a1, .int a2, .null] [] z Q := by
  unfold wb_X11_flipsAreSound_53 at h
  refine tq_s_iload_n (kk := 2) (by decide +kernel) rfl ?_
  refine tq_s_iload_n (kk := 1) (by decide +kernel) rfl ?_
  refine tq_icmp_ge (off := 47) (tgt := 102) (by decide +kernel) (by decide +kernel) (fun hc => ?_) (fun hc => ?_)
  · replace h := h.1 hc
    refine tq_k_ic (n := 1) (v := (1 : Int32)) (by decide +kernel) kc_1 ?_
    exact tq_ret_z (st := []) (ty := .boolean) (by decide +kernel) (by decide +kernel) rfl h
  · replace h := h.2 hc
    refine tq_s_aload_n (kk := 0) (by decide +kernel) rfl ?_
    refine fg_11_28_0 rfl (by decide +kernel) ?_
    refine tq_s_iload_n (kk := 2) (by decide +kernel) rfl ?_
    refine tq_callVN (as := [.int a2]) (st := []) (d1 := 3) (x1 := 0) (x2 := x) (by decide +kernel) ln_11_259 mf_X2_squareOf rfl sh_8 rfl (by decide) np_X2_squareOf rfl (Nat.le_of_ble_eq_true rfl) (by decide) (Nat.zero_add _).symm (tq_M_mono (am_X2_squareOf h) ?_)
    refine tq_wi_e (fun r102 z101 h => ?_)
    refine tq_s_istore_n (kk := 3) (L9 := [.ref 0, .int a1, .int a2, .int r102]) (by decide +kernel) (by decide) rfl ?_
    refine tq_s_aload_n (kk := 0) (by decide +kernel) rfl ?_
    refine fg_11_35_0 rfl (by decide +kernel) ?_
    refine tq_s_aload_n (kk := 0) (by decide +kernel) rfl ?_
    refine fg_11_28_0 rfl (by decide +kernel) ?_
    refine tq_s_iload_n (kk := 3) (by decide +kernel) rfl ?_
    refine tq_callVN (as := [.int r102]) (st := [.ref 12]) (d1 := 2) (x1 := 0) (x2 := x) (by decide +kernel) ln_11_265 mf_X2_rightFlipped rfl sh_8 rfl (by decide) np_X2_rightFlipped rfl (Nat.le_of_ble_eq_true rfl) (by decide) (Nat.zero_add _).symm (tq_M_mono (am_X2_rightFlipped h) ?_)
    refine tq_wl_e (fun r104 z103 h => ?_)
    refine tq_s_aload_n (kk := 0) (by decide +kernel) rfl ?_
    refine fg_11_28_0 rfl (by decide +kernel) ?_
    refine tq_s_iload_n (kk := 3) (by decide +kernel) rfl ?_
    refine tq_callVN (as := [.int r102]) (st := [.long r104, .ref 12]) (d1 := 2) (x1 := 0) (x2 := x) (by decide +kernel) ln_11_269 mf_X2_downFlipped rfl sh_8 rfl (by decide) np_X2_downFlipped rfl (Nat.le_of_ble_eq_true rfl) (by decide) (Nat.zero_add _).symm (tq_M_mono (am_X2_downFlipped h) ?_)
    refine tq_wl_e (fun r106 z105 h => ?_)
    refine tq_callVN (as := [.long r104, .long r106]) (st := []) (d1 := 4) (x1 := 0) (x2 := x) (by decide +kernel) ln_11_307 mf_X7_flipsFromKept rfl sh_12 rfl (by decide) np_X7_flipsFromKept rfl (Nat.le_of_ble_eq_true rfl) (by decide) (Nat.zero_add _).symm (tq_M_mono (am_X7_flipsFromKept h) ?_)
    refine tq_wi_e (fun r108 z107 h => ?_)
    refine tq_k_ic (n := 1) (v := (1 : Int32)) (by decide +kernel) kc_1 ?_
    refine tq_icmp_eq (off := 5) (tgt := 96) (by decide +kernel) (by decide +kernel) (fun hc => ?_) (fun hc => ?_)
    · replace h := h.1 hc
      refine tq_g_iinc (i := 2) (fun v109 => [.ref 0, .int a1, .int v109, .int r102]) (by decide +kernel) rfl (1 : Int32) kc_1 (fun _ => rfl) (fun v109 ev109 => ?_)
      replace h := h v109 ev109
      refine tq_s_goto (off := -46) (tgt := 53) (by decide +kernel) (by decide +kernel) ?_
      exact tq_to (tq_lk1 (tq_lk1 (tq_lk1 (tq_ld1 tq_l0)))) (hB53 _ _ h)
    · replace h := h.2 hc
      refine tq_k_ic (n := 0) (v := (0 : Int32)) (by decide +kernel) kc_0 ?_
      exact tq_ret_z (st := []) (ty := .boolean) (by decide +kernel) (by decide +kernel) rfl h
theorem ac_X11_flipsAreSound_53 {K : Nat × (Nat → Int32)} {x : Nat} {Q : tq_O → tq_S → Prop} {a1 : Int32} {a2 : Int32} {z : tq_S} (h : wc_X11_flipsAreSound_53 Q a1 a2 z) : tq_T K 5 x mm_X11_flipsAreSound 53 [.ref 0, .int a1, .int a2, .null] [] z Q :=
  tq_lp_T (σ := Int32 × tq_S) (s := (a2, z)) (G := fun s => tq_T K 5 x mm_X11_flipsAreSound 53 [.ref 0, .int a1, .int s.1, .null] [] s.2 Q) (fun B hB s h => ab_X11_flipsAreSound_53 (fun b2 z h => hB (b2, z) h) h) h
def wm_X11_flipsAreSound  (z : tq_S) (Q : tq_O → tq_S → Prop) : Prop := (((tq_fi z 516) = 0 → Q (.inl (some (.int (1 : Int32)))) z) ∧ (¬ (tq_fi z 516) = 0 → wm_X1_isPlain z (tq_wi fun r2 z1 => ((¬ r2 = 0 → wm_X7_fillKept (tq_fl z1 517) (tq_fl z1 518) z1 (tq_wv fun z3 => wm_X2_countFlips z3 (tq_wi fun r5 z4 => wc_X11_flipsAreSound_53 Q r5 (0 : Int32) z4))) ∧ (r2 = 0 → Q (.inl (some (.int (1 : Int32)))) z1)))))
theorem am_X11_flipsAreSound {K : Nat × (Nat → Int32)} {x : Nat} {z : tq_S} {Q : tq_O → tq_S → Prop}  (h : wm_X11_flipsAreSound z Q) : tq_M K 5 x mm_X11_flipsAreSound [.ref 0] z Q := by
  unfold wm_X11_flipsAreSound at h
  refine tq_enter (L := [.ref 0, .null, .null, .null]) mf_X11_flipsAreSound.1 rfl rfl (Nat.le_of_ble_eq_true rfl) ?_
  refine tq_s_aload_n (kk := 0) (by decide +kernel) rfl ?_
  refine fg_11_28_0 rfl (by decide +kernel) ?_
  refine fg_11_238_8 rfl (by decide +kernel) ?_
  refine tq_if_eq (off := 13) (tgt := 20) (by decide +kernel) (by decide +kernel) (fun hc => ?_) (fun hc => ?_)
  · replace h := h.1 hc
    refine tq_k_ic (n := 1) (v := (1 : Int32)) (by decide +kernel) kc_1 ?_
    exact tq_ret_z (st := []) (ty := .boolean) (by decide +kernel) (by decide +kernel) rfl h
  · replace h := h.2 hc
    refine tq_s_aload_n (kk := 0) (by decide +kernel) rfl ?_
    refine fg_11_10_0 rfl (by decide +kernel) ?_
    refine tq_callVN (as := []) (st := []) (d1 := 4) (x1 := 0) (x2 := x) (by decide +kernel) ln_11_199 mf_X1_isPlain rfl sh_1 rfl (by decide) np_X1_isPlain rfl (Nat.le_of_ble_eq_true rfl) (by decide) (Nat.zero_add _).symm (tq_M_mono (am_X1_isPlain h) ?_)
    refine tq_wi_e (fun r2 z1 h => ?_)
    refine tq_if_ne (off := 5) (tgt := 22) (by decide +kernel) (by decide +kernel) (fun hc => ?_) (fun hc => ?_)
    · replace h := h.1 hc
      refine tq_s_aload_n (kk := 0) (by decide +kernel) rfl ?_
      refine fg_11_35_0 rfl (by decide +kernel) ?_
      refine tq_s_aload_n (kk := 0) (by decide +kernel) rfl ?_
      refine fg_11_28_0 rfl (by decide +kernel) ?_
      refine fg_11_243_8 rfl (by decide +kernel) ?_
      refine tq_s_aload_n (kk := 0) (by decide +kernel) rfl ?_
      refine fg_11_28_0 rfl (by decide +kernel) ?_
      refine fg_11_246_8 rfl (by decide +kernel) ?_
      refine tq_callVN (as := [.long (tq_fl z1 517), .long (tq_fl z1 518)]) (st := []) (d1 := 4) (x1 := 0) (x2 := x) (by decide +kernel) ln_11_304 mf_X7_fillKept rfl sh_12 rfl (by decide) np_X7_fillKept rfl (Nat.le_of_ble_eq_true rfl) (by decide) (Nat.zero_add _).symm (tq_M_mono (am_X7_fillKept h) ?_)
      refine tq_wv_e (fun z3 h => ?_)
      refine tq_s_aload_n (kk := 0) (by decide +kernel) rfl ?_
      refine fg_11_28_0 rfl (by decide +kernel) ?_
      refine tq_callVN (as := []) (st := []) (d1 := 3) (x1 := 0) (x2 := x) (by decide +kernel) ln_11_256 mf_X2_countFlips rfl sh_8 rfl (by decide) np_X2_countFlips rfl (Nat.le_of_ble_eq_true rfl) (by decide) (Nat.zero_add _).symm (tq_M_mono (am_X2_countFlips h) ?_)
      refine tq_wi_e (fun r5 z4 h => ?_)
      refine tq_s_istore_n (kk := 1) (L9 := [.ref 0, .int r5, .null, .null]) (by decide +kernel) (by decide) rfl ?_
      refine tq_k_ic (n := 0) (v := (0 : Int32)) (by decide +kernel) kc_0 ?_
      refine tq_s_istore_n (kk := 2) (L9 := [.ref 0, .int r5, .int (0 : Int32), .null]) (by decide +kernel) (by decide) rfl ?_
      exact ac_X11_flipsAreSound_53 h
    · replace h := h.2 hc
      refine tq_k_ic (n := 1) (v := (1 : Int32)) (by decide +kernel) kc_1 ?_
      exact tq_ret_z (st := []) (ty := .boolean) (by decide +kernel) (by decide +kernel) rfl h
def wc_X5_withCell_85 (Q : tq_O → tq_S → Prop) (a1 : Int32) (a2 : Int32) (a3 : Int32) (a4 : Int64) (z : tq_S) : Prop := ((a3 = a1 → Q (.inl (some (.long (a4 + (0 : Int64))))) z) ∧ (¬ a3 = a1 → vp_in ((2 : Int32) * (((8 : Int32) * a2) + a3)) 128 ∧ Q (.inl (some (.long (a4 + (tq_al z 7 (Int32.toNatClampNeg ((2 : Int32) * (((8 : Int32) * a2) + a3)))))))) z))
theorem ac_X5_withCell_85 {K : Nat × (Nat → Int32)} {x : Nat} {Q : tq_O → tq_S → Prop} {a1 : Int32} {a2 : Int32} {a3 : Int32} {a4 : Int64} {z : tq_S} (h : wc_X5_withCell_85 Q a1 a2 a3 a4 z) : tq_T K 0 x mm_X5_withCell 85 [.ref 2, .int a1, .int a2, .int a3, .long a4, .null, .null] [] z Q := by
  unfold wc_X5_withCell_85 at h
  refine tq_s_lload (i := 4) (by decide +kernel) rfl ?_
  refine tq_s_iload_n (kk := 3) (by decide +kernel) rfl ?_
  refine tq_s_iload_n (kk := 1) (by decide +kernel) rfl ?_
  refine tq_icmp_eq (off := 19) (tgt := 108) (by decide +kernel) (by decide +kernel) (fun hc => ?_) (fun hc => ?_)
  · replace h := h.1 hc
    refine tq_k_lc (n := 0) (v := (0 : Int64)) (by decide +kernel) (by decide +kernel) ?_
    refine tq_s_ladd (by decide +kernel) ?_
    exact tq_ret_l (st := []) (by decide +kernel) rfl h
  · replace h := h.2 hc
    refine tq_s_aload_n (kk := 0) (by decide +kernel) rfl ?_
    refine fg_5_28_2 rfl (by decide +kernel) ?_
    refine tq_k_ic (n := 2) (v := (2 : Int32)) (by decide +kernel) kc_2 ?_
    refine tq_k_bi (n := 8) (v := (8 : Int32)) (by decide +kernel) kb_8 ?_
    refine tq_s_iload_n (kk := 2) (by decide +kernel) rfl ?_
    refine tq_s_imul (by decide +kernel) ?_
    refine tq_s_iload_n (kk := 3) (by decide +kernel) rfl ?_
    refine tq_s_iadd (by decide +kernel) ?_
    refine tq_s_imul (by decide +kernel) ?_
    refine tq_s_lald (by decide +kernel) sh_7 h.1 ?_
    replace h := h.2
    refine tq_s_goto (off := 4) (tgt := 109) (by decide +kernel) (by decide +kernel) ?_
    refine tq_s_ladd (by decide +kernel) ?_
    exact tq_ret_l (st := []) (by decide +kernel) rfl h
def wc_X5_withCell_59 (Q : tq_O → tq_S → Prop) (a1 : Int32) (a2 : Int32) (a3 : Int32) (a4 : Int64) (z : tq_S) : Prop := ((a2 ≤ 0 → wc_X5_withCell_85 Q a1 a2 a3 a4 z) ∧ (¬ a2 ≤ 0 → vp_in (((2 : Int32) * (((8 : Int32) * (a2 - (1 : Int32))) + a1)) + (1 : Int32)) 128 ∧ ∀ v101 : Int64, v101 = (a4 + (tq_al z 7 (Int32.toNatClampNeg (((2 : Int32) * (((8 : Int32) * (a2 - (1 : Int32))) + a1)) + (1 : Int32))))) → wc_X5_withCell_85 Q a1 a2 a3 v101 z))
theorem ac_X5_withCell_59 {K : Nat × (Nat → Int32)} {x : Nat} {Q : tq_O → tq_S → Prop} {a1 : Int32} {a2 : Int32} {a3 : Int32} {a4 : Int64} {z : tq_S} (h : wc_X5_withCell_59 Q a1 a2 a3 a4 z) : tq_T K 0 x mm_X5_withCell 59 [.ref 2, .int a1, .int a2, .int a3, .long a4, .null, .null] [] z Q := by
  unfold wc_X5_withCell_59 at h
  refine tq_s_iload_n (kk := 2) (by decide +kernel) rfl ?_
  refine tq_if_le (off := 25) (tgt := 85) (by decide +kernel) (by decide +kernel) (fun hc => ?_) (fun hc => ?_)
  · replace h := h.1 hc
    exact ac_X5_withCell_85 h
  · replace h := h.2 hc
    refine tq_s_lload (i := 4) (by decide +kernel) rfl ?_
    refine tq_s_aload_n (kk := 0) (by decide +kernel) rfl ?_
    refine fg_5_28_2 rfl (by decide +kernel) ?_
    refine tq_k_ic (n := 2) (v := (2 : Int32)) (by decide +kernel) kc_2 ?_
    refine tq_k_bi (n := 8) (v := (8 : Int32)) (by decide +kernel) kb_8 ?_
    refine tq_s_iload_n (kk := 2) (by decide +kernel) rfl ?_
    refine tq_k_ic (n := 1) (v := (1 : Int32)) (by decide +kernel) kc_1 ?_
    refine tq_s_isub (by decide +kernel) ?_
    refine tq_s_imul (by decide +kernel) ?_
    refine tq_s_iload_n (kk := 1) (by decide +kernel) rfl ?_
    refine tq_s_iadd (by decide +kernel) ?_
    refine tq_s_imul (by decide +kernel) ?_
    refine tq_k_ic (n := 1) (v := (1 : Int32)) (by decide +kernel) kc_1 ?_
    refine tq_s_iadd (by decide +kernel) ?_
    refine tq_s_lald (by decide +kernel) sh_7 h.1 ?_
    replace h := h.2
    refine tq_s_ladd (by decide +kernel) ?_
    refine tq_g_lstore (i := 4) (fun v101 => [.ref 2, .int a1, .int a2, .int a3, .long v101, .null, .null]) (by decide +kernel) (by decide) (fun _ => rfl) (fun v101 ev101 => ?_)
    replace h := h v101 ev101
    exact ac_X5_withCell_85 h
def wb_X5_withCell_26 (B26 : Int64 → Int32 → tq_S → Prop) (Q : tq_O → tq_S → Prop) (a1 : Int32) (a2 : Int32) (a3 : Int32) (a4 : Int64) (a6 : Int32) (z : tq_S) : Prop := (((2 : Int32) ≤ a6 → wc_X5_withCell_59 Q a1 a2 a3 a4 z) ∧ (¬ (2 : Int32) ≤ a6 → vp_in (((2 : Int32) * (((8 : Int32) * a2) + a1)) + a6) 128 ∧ ∀ v101 : Int64, v101 = (a4 + (tq_al z 7 (Int32.toNatClampNeg (((2 : Int32) * (((8 : Int32) * a2) + a1)) + a6)))) → ∀ v102 : Int32, v102 = a6 + (1 : Int32) → B26 v101 v102 z))
def wc_X5_withCell_26 (Q : tq_O → tq_S → Prop) (a1 : Int32) (a2 : Int32) (a3 : Int32) (a4 : Int64) (a6 : Int32) (z : tq_S) : Prop := tq_lp (σ := Int64 × Int32 × tq_S) (fun B s => wb_X5_withCell_26 (fun b4 b6 z => B (b4, b6, z)) Q a1 a2 a3 s.1 s.2.1 s.2.2) (a4, a6, z)
theorem ab_X5_withCell_26 {K : Nat × (Nat → Int32)} {x : Nat} {Q : tq_O → tq_S → Prop} {B26 : Int64 → Int32 → tq_S → Prop} {a1 : Int32} {a2 : Int32} {a3 : Int32} {a4 : Int64} {a6 : Int32} {z : tq_S} (hB26 : ∀ (b4 : Int64) (b6 : Int32) (z : tq_S), B26 b4 b6 z → tq_T K 0 x mm_X5_withCell 26 [.ref 2, .int a1, .int a2, .int a3, .long b4, .null, .int b6] [] z Q) (h : wb_X5_withCell_26 B26 Q a1 a2 a3 a4 a6 z) : tq_T K 0 x mm_X5_withCell 26 [.ref 2, .int a1, .int a2, .int a3, .long a4, .null, .int a6] [] z Q := by
  unfold wb_X5_withCell_26 at h
  refine tq_s_iload (i := 6) (by decide +kernel) rfl ?_
  refine tq_k_ic (n := 2) (v := (2 : Int32)) (by decide +kernel) kc_2 ?_
  refine tq_icmp_ge (off := 30) (tgt := 59) (by decide +kernel) (by decide +kernel) (fun hc => ?_) (fun hc => ?_)
  · replace h := h.1 hc
    exact tq_to (tq_lk1 (tq_lk1 (tq_lk1 (tq_lk1 (tq_lk1 (tq_lk1 (tq_ld1 tq_l0))))))) (ac_X5_withCell_59 h)
  · replace h := h.2 hc
    refine tq_s_lload (i := 4) (by decide +kernel) rfl ?_
    refine tq_s_aload_n (kk := 0) (by decide +kernel) rfl ?_
    refine fg_5_28_2 rfl (by decide +kernel) ?_
    refine tq_k_ic (n := 2) (v := (2 : Int32)) (by decide +kernel) kc_2 ?_
    refine tq_k_bi (n := 8) (v := (8 : Int32)) (by decide +kernel) kb_8 ?_
    refine tq_s_iload_n (kk := 2) (by decide +kernel) rfl ?_
    refine tq_s_imul (by decide +kernel) ?_
    refine tq_s_iload_n (kk := 1) (by decide +kernel) rfl ?_
    refine tq_s_iadd (by decide +kernel) ?_
    refine tq_s_imul (by decide +kernel) ?_
    refine tq_s_iload (i := 6) (by decide +kernel) rfl ?_
    refine tq_s_iadd (by decide +kernel) ?_
    refine tq_s_lald (by decide +kernel) sh_7 h.1 ?_
    replace h := h.2
    refine tq_s_ladd (by decide +kernel) ?_
    refine tq_g_lstore (i := 4) (fun v101 => [.ref 2, .int a1, .int a2, .int a3, .long v101, .null, .int a6]) (by decide +kernel) (by decide) (fun _ => rfl) (fun v101 ev101 => ?_)
    replace h := h v101 ev101
    refine tq_g_iinc (i := 6) (fun v102 => [.ref 2, .int a1, .int a2, .int a3, .long v101, .null, .int v102]) (by decide +kernel) rfl (1 : Int32) kc_1 (fun _ => rfl) (fun v102 ev102 => ?_)
    replace h := h v102 ev102
    refine tq_s_goto (off := -30) (tgt := 26) (by decide +kernel) (by decide +kernel) ?_
    exact hB26 _ _ _ h
theorem ac_X5_withCell_26 {K : Nat × (Nat → Int32)} {x : Nat} {Q : tq_O → tq_S → Prop} {a1 : Int32} {a2 : Int32} {a3 : Int32} {a4 : Int64} {a6 : Int32} {z : tq_S} (h : wc_X5_withCell_26 Q a1 a2 a3 a4 a6 z) : tq_T K 0 x mm_X5_withCell 26 [.ref 2, .int a1, .int a2, .int a3, .long a4, .null, .int a6] [] z Q :=
  tq_lp_T (σ := Int64 × Int32 × tq_S) (s := (a4, a6, z)) (G := fun s => tq_T K 0 x mm_X5_withCell 26 [.ref 2, .int a1, .int a2, .int a3, .long s.1, .null, .int s.2.1] [] s.2.2 Q) (fun B hB s h => ab_X5_withCell_26 (fun b4 b6 z h => hB (b4, b6, z) h) h) h
def wc_X5_withCell_19 (Q : tq_O → tq_S → Prop) (a1 : Int32) (a2 : Int32) (s0 : Int32) (z : tq_S) : Prop := wc_X5_withCell_26 Q a1 a2 s0 (0 : Int64) (0 : Int32) z
theorem ac_X5_withCell_19 {K : Nat × (Nat → Int32)} {x : Nat} {Q : tq_O → tq_S → Prop} {a1 : Int32} {a2 : Int32} {s0 : Int32} {z : tq_S} (h : wc_X5_withCell_19 Q a1 a2 s0 z) : tq_T K 0 x mm_X5_withCell 19 [.ref 2, .int a1, .int a2, .null, .null, .null, .null] [.int s0] z Q := by
  unfold wc_X5_withCell_19 at h
  refine tq_s_istore_n (kk := 3) (L9 := [.ref 2, .int a1, .int a2, .int s0, .null, .null, .null]) (by decide +kernel) (by decide) rfl ?_
  refine tq_k_lc (n := 0) (v := (0 : Int64)) (by decide +kernel) (by decide +kernel) ?_
  refine tq_s_lstore (i := 4) (L9 := [.ref 2, .int a1, .int a2, .int s0, .long (0 : Int64), .null, .null]) (by decide +kernel) (by decide) rfl ?_
  refine tq_k_ic (n := 0) (v := (0 : Int32)) (by decide +kernel) kc_0 ?_
  refine tq_s_istore (i := 6) (L9 := [.ref 2, .int a1, .int a2, .int s0, .long (0 : Int64), .null, .int (0 : Int32)]) (by decide +kernel) (by decide) rfl ?_
  exact ac_X5_withCell_26 h
def wm_X5_withCell (a1 : Int32) (a2 : Int32) (z : tq_S) (Q : tq_O → tq_S → Prop) : Prop := ((a1 ≤ 0 → wc_X5_withCell_19 Q a1 a2 ((tq_fi z 64) - (1 : Int32)) z) ∧ (¬ a1 ≤ 0 → wc_X5_withCell_19 Q a1 a2 (a1 - (1 : Int32)) z))
theorem am_X5_withCell {K : Nat × (Nat → Int32)} {x : Nat} {z : tq_S} {Q : tq_O → tq_S → Prop} {a1 : Int32} {a2 : Int32} (h : wm_X5_withCell a1 a2 z Q) : tq_M K 0 x mm_X5_withCell [.ref 2, .int a1, .int a2] z Q := by
  unfold wm_X5_withCell at h
  refine tq_enter (L := [.ref 2, .int a1, .int a2, .null, .null, .null, .null]) mf_X5_withCell.1 rfl rfl (Nat.le_of_ble_eq_true rfl) ?_
  refine tq_s_iload_n (kk := 1) (by decide +kernel) rfl ?_
  refine tq_if_le (off := 9) (tgt := 10) (by decide +kernel) (by decide +kernel) (fun hc => ?_) (fun hc => ?_)
  · replace h := h.1 hc
    refine tq_s_aload_n (kk := 0) (by decide +kernel) rfl ?_
    refine fg_5_7_2 rfl (by decide +kernel) ?_
    refine fg_5_48_1 rfl (by decide +kernel) ?_
    refine tq_k_ic (n := 1) (v := (1 : Int32)) (by decide +kernel) kc_1 ?_
    refine tq_s_isub (by decide +kernel) ?_
    exact ac_X5_withCell_19 h
  · replace h := h.2 hc
    refine tq_s_iload_n (kk := 1) (by decide +kernel) rfl ?_
    refine tq_k_ic (n := 1) (v := (1 : Int32)) (by decide +kernel) kc_1 ?_
    refine tq_s_isub (by decide +kernel) ?_
    refine tq_s_goto (off := 12) (tgt := 19) (by decide +kernel) (by decide +kernel) ?_
    exact ac_X5_withCell_19 h
def wc_X11_piecesAreSound_73 (B17 : Int32 → tq_S → Prop) (B31 : Int32 → tq_S → Prop) (Q : tq_O → tq_S → Prop) (a1 : Int64) (a3 : Int32) (a4 : Int32) (z : tq_S) : Prop := ∀ v101 : Int32, v101 = a4 + (1 : Int32) → B31 v101 z
theorem ac_X11_piecesAreSound_73 {K : Nat × (Nat → Int32)} {x : Nat} {Q : tq_O → tq_S → Prop} {B17 : Int32 → tq_S → Prop} {B31 : Int32 → tq_S → Prop} {a1 : Int64} {a3 : Int32} {a4 : Int32} {z : tq_S} (hB17 : ∀ (b3 : Int32) (z : tq_S), B17 b3 z → tq_T K 5 x mm_X11_piecesAreSound 17 [.ref 0, .long a1, .null, .int b3, .null] [] z Q) (hB31 : ∀ (b4 : Int32) (z : tq_S), B31 b4 z → tq_T K 5 x mm_X11_piecesAreSound 31 [.ref 0, .long a1, .null, .int a3, .int b4] [] z Q) (h : wc_X11_piecesAreSound_73 B17 B31 Q a1 a3 a4 z) : tq_T K 5 x mm_X11_piecesAreSound 73 [.ref 0, .long a1, .null, .int a3, .int a4] [] z Q := by
  unfold wc_X11_piecesAreSound_73 at h
  refine tq_g_iinc (i := 4) (fun v101 => [.ref 0, .long a1, .null, .int a3, .int v101]) (by decide +kernel) rfl (1 : Int32) kc_1 (fun _ => rfl) (fun v101 ev101 => ?_)
  replace h := h v101 ev101
  refine tq_s_goto (off := -45) (tgt := 31) (by decide +kernel) (by decide +kernel) ?_
  exact hB31 _ _ h
def wc_X11_piecesAreSound_79 (B17 : Int32 → tq_S → Prop) (Q : tq_O → tq_S → Prop) (a1 : Int64) (a3 : Int32) (z : tq_S) : Prop := ∀ v101 : Int32, v101 = a3 + (1 : Int32) → B17 v101 z
theorem ac_X11_piecesAreSound_79 {K : Nat × (Nat → Int32)} {x : Nat} {Q : tq_O → tq_S → Prop} {B17 : Int32 → tq_S → Prop} {a1 : Int64} {a3 : Int32} {z : tq_S} (hB17 : ∀ (b3 : Int32) (z : tq_S), B17 b3 z → tq_T K 5 x mm_X11_piecesAreSound 17 [.ref 0, .long a1, .null, .int b3, .null] [] z Q) (h : wc_X11_piecesAreSound_79 B17 Q a1 a3 z) : tq_T K 5 x mm_X11_piecesAreSound 79 [.ref 0, .long a1, .null, .int a3, .null] [] z Q := by
  unfold wc_X11_piecesAreSound_79 at h
  refine tq_g_iinc (i := 3) (fun v101 => [.ref 0, .long a1, .null, .int v101, .null]) (by decide +kernel) rfl (1 : Int32) kc_1 (fun _ => rfl) (fun v101 ev101 => ?_)
  replace h := h v101 ev101
  refine tq_s_goto (off := -65) (tgt := 17) (by decide +kernel) (by decide +kernel) ?_
  exact hB17 _ _ h
def wb_X11_piecesAreSound_31 (B17 : Int32 → tq_S → Prop) (B31 : Int32 → tq_S → Prop) (Q : tq_O → tq_S → Prop) (a1 : Int64) (a3 : Int32) (a4 : Int32) (z : tq_S) : Prop := (((tq_fi z 64) ≤ a4 → wc_X11_piecesAreSound_79 B17 Q a1 a3 z) ∧ (¬ (tq_fi z 64) ≤ a4 → wm_X1_holds a4 a3 z (tq_wi fun r102 z101 => ((r102 = 0 → wc_X11_piecesAreSound_73 B17 B31 Q a1 a3 a4 z101) ∧ (¬ r102 = 0 → wm_X5_withCell a4 a3 z101 (tq_wl fun r104 z103 => ((r104 = a1 → wc_X11_piecesAreSound_73 B17 B31 Q a1 a3 a4 z103) ∧ (¬ r104 = a1 → Q (.inl (some (.int (0 : Int32)))) z103))))))))
def wc_X11_piecesAreSound_31 (B17 : Int32 → tq_S → Prop) (Q : tq_O → tq_S → Prop) (a1 : Int64) (a3 : Int32) (a4 : Int32) (z : tq_S) : Prop := tq_lp (σ := Int32 × tq_S) (fun B s => wb_X11_piecesAreSound_31 B17 (fun b4 z => B (b4, z)) Q a1 a3 s.1 s.2) (a4, z)
theorem ab_X11_piecesAreSound_31 {K : Nat × (Nat → Int32)} {x : Nat} {Q : tq_O → tq_S → Prop} {B17 : Int32 → tq_S → Prop} {B31 : Int32 → tq_S → Prop} {a1 : Int64} {a3 : Int32} {a4 : Int32} {z : tq_S} (hB17 : ∀ (b3 : Int32) (z : tq_S), B17 b3 z → tq_T K 5 x mm_X11_piecesAreSound 17 [.ref 0, .long a1, .null, .int b3, .null] [] z Q) (hB31 : ∀ (b4 : Int32) (z : tq_S), B31 b4 z → tq_T K 5 x mm_X11_piecesAreSound 31 [.ref 0, .long a1, .null, .int a3, .int b4] [] z Q) (h : wb_X11_piecesAreSound_31 B17 B31 Q a1 a3 a4 z) : tq_T K 5 x mm_X11_piecesAreSound 31 [.ref 0, .long a1, .null, .int a3, .int a4] [] z Q := by
  unfold wb_X11_piecesAreSound_31 at h
  refine tq_s_iload (i := 4) (by decide +kernel) rfl ?_
  refine tq_s_aload_n (kk := 0) (by decide +kernel) rfl ?_
  refine fg_11_10_0 rfl (by decide +kernel) ?_
  refine fg_11_486_1 rfl (by decide +kernel) ?_
  refine tq_icmp_ge (off := 39) (tgt := 79) (by decide +kernel) (by decide +kernel) (fun hc => ?_) (fun hc => ?_)
  · replace h := h.1 hc
    exact tq_to (tq_lk1 (tq_lk1 (tq_lk1 (tq_lk1 (tq_ld1 tq_l0))))) (ac_X11_piecesAreSound_79 hB17 h)
  · replace h := h.2 hc
    refine tq_s_aload_n (kk := 0) (by decide +kernel) rfl ?_
    refine fg_11_10_0 rfl (by decide +kernel) ?_
    refine tq_s_iload (i := 4) (by decide +kernel) rfl ?_
    refine tq_s_iload_n (kk := 3) (by decide +kernel) rfl ?_
    refine tq_callVN (as := [.int a4, .int a3]) (st := []) (d1 := 0) (x1 := 0) (x2 := x) (by decide +kernel) ln_11_137 mf_X1_holds rfl sh_1 rfl (by decide) np_X1_holds rfl (Nat.le_of_ble_eq_true rfl) (by decide) (Nat.zero_add _).symm (tq_M_mono (am_X1_holds h) ?_)
    refine tq_wi_e (fun r102 z101 h => ?_)
    refine tq_if_eq (off := 20) (tgt := 73) (by decide +kernel) (by decide +kernel) (fun hc => ?_) (fun hc => ?_)
    · replace h := h.1 hc
      exact ac_X11_piecesAreSound_73 hB17 hB31 h
    · replace h := h.2 hc
      refine tq_s_aload_n (kk := 0) (by decide +kernel) rfl ?_
      refine fg_11_21_0 rfl (by decide +kernel) ?_
      refine tq_s_iload (i := 4) (by decide +kernel) rfl ?_
      refine tq_s_iload_n (kk := 3) (by decide +kernel) rfl ?_
      refine tq_callVN (as := [.int a4, .int a3]) (st := []) (d1 := 0) (x1 := 0) (x2 := x) (by decide +kernel) ln_11_489 mf_X5_withCell rfl sh_2 rfl (by decide) np_X5_withCell rfl (Nat.le_of_ble_eq_true rfl) (by decide) (Nat.zero_add _).symm (tq_M_mono (am_X5_withCell h) ?_)
      refine tq_wl_e (fun r104 z103 h => ?_)
      refine tq_s_lload_n (kk := 1) (by decide +kernel) rfl ?_
      refine tq_lcmp_eq (off := 5) (tgt := 73) (by decide +kernel) (by decide +kernel) (by decide +kernel) (fun hc => ?_) (fun hc => ?_)
      · replace h := h.1 hc
        exact ac_X11_piecesAreSound_73 hB17 hB31 h
      · replace h := h.2 hc
        refine tq_k_ic (n := 0) (v := (0 : Int32)) (by decide +kernel) kc_0 ?_
        exact tq_ret_z (st := []) (ty := .boolean) (by decide +kernel) (by decide +kernel) rfl h
theorem ac_X11_piecesAreSound_31 {K : Nat × (Nat → Int32)} {x : Nat} {Q : tq_O → tq_S → Prop} {B17 : Int32 → tq_S → Prop} {a1 : Int64} {a3 : Int32} {a4 : Int32} {z : tq_S} (hB17 : ∀ (b3 : Int32) (z : tq_S), B17 b3 z → tq_T K 5 x mm_X11_piecesAreSound 17 [.ref 0, .long a1, .null, .int b3, .null] [] z Q) (h : wc_X11_piecesAreSound_31 B17 Q a1 a3 a4 z) : tq_T K 5 x mm_X11_piecesAreSound 31 [.ref 0, .long a1, .null, .int a3, .int a4] [] z Q :=
  tq_lp_T (σ := Int32 × tq_S) (s := (a4, z)) (G := fun s => tq_T K 5 x mm_X11_piecesAreSound 31 [.ref 0, .long a1, .null, .int a3, .int s.1] [] s.2 Q) (fun B hB s h => ab_X11_piecesAreSound_31 hB17 (fun b4 z h => hB (b4, z) h) h) h
def wb_X11_piecesAreSound_17 (B17 : Int32 → tq_S → Prop) (Q : tq_O → tq_S → Prop) (a1 : Int64) (a3 : Int32) (z : tq_S) : Prop := (((tq_fi z 65) ≤ a3 → Q (.inl (some (.int (1 : Int32)))) z) ∧ (¬ (tq_fi z 65) ≤ a3 → wc_X11_piecesAreSound_31 B17 Q a1 a3 (0 : Int32) z))
def wc_X11_piecesAreSound_17 (Q : tq_O → tq_S → Prop) (a1 : Int64) (a3 : Int32) (z : tq_S) : Prop := tq_lp (σ := Int32 × tq_S) (fun B s => wb_X11_piecesAreSound_17 (fun b3 z => B (b3, z)) Q a1 s.1 s.2) (a3, z)
theorem ab_X11_piecesAreSound_17 {K : Nat × (Nat → Int32)} {x : Nat} {Q : tq_O → tq_S → Prop} {B17 : Int32 → tq_S → Prop} {a1 : Int64} {a3 : Int32} {z : tq_S} (hB17 : ∀ (b3 : Int32) (z : tq_S), B17 b3 z → tq_T K 5 x mm_X11_piecesAreSound 17 [.ref 0, .long a1, .null, .int b3, .null] [] z Q) (h : wb_X11_piecesAreSound_17 B17 Q a1 a3 z) : tq_T K 5 x mm_X11_piecesAreSound 17 [.ref 0, .long a1, .null, .int a3, .null] [] z Q := by
  unfold wb_X11_piecesAreSound_17 at h
  refine tq_s_iload_n (kk := 3) (by decide +kernel) rfl ?_
  refine tq_s_aload_n (kk := 0) (by decide +kernel) rfl ?_
  refine fg_11_10_0 rfl (by decide +kernel) ?_
  refine fg_11_483_1 rfl (by decide +kernel) ?_
  refine tq_icmp_ge (off := 60) (tgt := 85) (by decide +kernel) (by decide +kernel) (fun hc => ?_) (fun hc => ?_)
  · replace h := h.1 hc
    refine tq_k_ic (n := 1) (v := (1 : Int32)) (by decide +kernel) kc_1 ?_
    exact tq_ret_z (st := []) (ty := .boolean) (by decide +kernel) (by decide +kernel) rfl h
  · replace h := h.2 hc
    refine tq_k_ic (n := 0) (v := (0 : Int32)) (by decide +kernel) kc_0 ?_
    refine tq_s_istore (i := 4) (L9 := [.ref 0, .long a1, .null, .int a3, .int (0 : Int32)]) (by decide +kernel) (by decide) rfl ?_
    exact ac_X11_piecesAreSound_31 hB17 h
theorem ac_X11_piecesAreSound_17 {K : Nat × (Nat → Int32)} {x : Nat} {Q : tq_O → tq_S → Prop} {a1 : Int64} {a3 : Int32} {z : tq_S} (h : wc_X11_piecesAreSound_17 Q a1 a3 z) : tq_T K 5 x mm_X11_piecesAreSound 17 [.ref 0, .long a1, .null, .int a3, .null] [] z Q :=
  tq_lp_T (σ := Int32 × tq_S) (s := (a3, z)) (G := fun s => tq_T K 5 x mm_X11_piecesAreSound 17 [.ref 0, .long a1, .null, .int s.1, .null] [] s.2 Q) (fun B hB s h => ab_X11_piecesAreSound_17 (fun b3 z h => hB (b3, z) h) h) h
def wm_X11_piecesAreSound  (z : tq_S) (Q : tq_O → tq_S → Prop) : Prop := wm_X5_total z (tq_wl fun r2 z1 => wm_X5_fillHaving z1 (tq_wv fun z3 => wc_X11_piecesAreSound_17 Q r2 (0 : Int32) z3))
theorem am_X11_piecesAreSound {K : Nat × (Nat → Int32)} {x : Nat} {z : tq_S} {Q : tq_O → tq_S → Prop}  (h : wm_X11_piecesAreSound z Q) : tq_M K 5 x mm_X11_piecesAreSound [.ref 0] z Q := by
  unfold wm_X11_piecesAreSound at h
  refine tq_enter (L := [.ref 0, .null, .null, .null, .null]) mf_X11_piecesAreSound.1 rfl rfl (Nat.le_of_ble_eq_true rfl) ?_
  refine tq_s_aload_n (kk := 0) (by decide +kernel) rfl ?_
  refine fg_11_21_0 rfl (by decide +kernel) ?_
  refine tq_callVN (as := []) (st := []) (d1 := 3) (x1 := 0) (x2 := x) (by decide +kernel) ln_11_192 mf_X5_total rfl sh_2 rfl (by decide) np_X5_total rfl (Nat.le_of_ble_eq_true rfl) (by decide) (Nat.zero_add _).symm (tq_M_mono (am_X5_total h) ?_)
  refine tq_wl_e (fun r2 z1 h => ?_)
  refine tq_s_lstore_n (kk := 1) (L9 := [.ref 0, .long r2, .null, .null, .null]) (by decide +kernel) (by decide) rfl ?_
  refine tq_s_aload_n (kk := 0) (by decide +kernel) rfl ?_
  refine fg_11_21_0 rfl (by decide +kernel) ?_
  refine tq_callVN (as := []) (st := []) (d1 := 4) (x1 := 0) (x2 := x) (by decide +kernel) ln_11_214 mf_X5_fillHaving rfl sh_2 rfl (by decide) np_X5_fillHaving rfl (Nat.le_of_ble_eq_true rfl) (by decide) (Nat.zero_add _).symm (tq_M_mono (am_X5_fillHaving h) ?_)
  refine tq_wv_e (fun z3 h => ?_)
  refine tq_k_ic (n := 0) (v := (0 : Int32)) (by decide +kernel) kc_0 ?_
  refine tq_s_istore_n (kk := 3) (L9 := [.ref 0, .long r2, .null, .int (0 : Int32), .null]) (by decide +kernel) (by decide) rfl ?_
  exact ac_X11_piecesAreSound_17 h
def wm_X11_rolesAreSound  (z : tq_S) (Q : tq_O → tq_S → Prop) : Prop := wm_X9_refresh z (tq_wv fun z1 => wm_J13_bitCount_95d88 (tq_fl z1 1222) z1 (tq_wi fun r3 z2 => wm_J13_bitCount_95d88 (tq_fl z2 1221) z2 (tq_wi fun r5 z4 => wm_J13_bitCount_95d88 (tq_fl z4 1223) z4 (tq_wi fun r7 z6 => ((¬ r5 = (r3 - r7) → Q (.inl (some (.int (0 : Int32)))) z6) ∧ (r5 = (r3 - r7) → Q (.inl (some (.int (1 : Int32)))) z6))))))
theorem am_X11_rolesAreSound {K : Nat × (Nat → Int32)} {x : Nat} {z : tq_S} {Q : tq_O → tq_S → Prop}  (h : wm_X11_rolesAreSound z Q) : tq_M K 5 x mm_X11_rolesAreSound [.ref 0] z Q := by
  unfold wm_X11_rolesAreSound at h
  refine tq_enter (L := [.ref 0, .null]) mf_X11_rolesAreSound.1 rfl rfl (Nat.le_of_ble_eq_true rfl) ?_
  refine tq_s_aload_n (kk := 0) (by decide +kernel) rfl ?_
  refine fg_11_49_0 rfl (by decide +kernel) ?_
  refine tq_callVN (as := []) (st := []) (d1 := 4) (x1 := 0) (x2 := x) (by decide +kernel) ln_11_320 mf_X9_refresh rfl sh_19 rfl (by decide) np_X9_refresh rfl (Nat.le_of_ble_eq_true rfl) (by decide) (Nat.zero_add _).symm (tq_M_mono (am_X9_refresh h) ?_)
  refine tq_wv_e (fun z1 h => ?_)
  refine tq_s_aload_n (kk := 0) (by decide +kernel) rfl ?_
  refine fg_11_49_0 rfl (by decide +kernel) ?_
  refine fg_11_329_19 rfl (by decide +kernel) ?_
  refine tq_callS (as := [.long (tq_fl z1 1222)]) (st := []) (d1 := 0) (x1 := 0) (x2 := x) (by decide +kernel) ln_11_180 mf_J13_bitCount_95d88 rfl (by decide) np_J13_bitCount_95d88 rfl (Nat.le_of_ble_eq_true rfl) (by decide) (Nat.zero_add _).symm (tq_M_mono (am_J13_bitCount_95d88 h) ?_)
  refine tq_wi_e (fun r3 z2 h => ?_)
  refine tq_s_istore_n (kk := 1) (L9 := [.ref 0, .int r3]) (by decide +kernel) (by decide) rfl ?_
  refine tq_s_aload_n (kk := 0) (by decide +kernel) rfl ?_
  refine fg_11_49_0 rfl (by decide +kernel) ?_
  refine fg_11_323_19 rfl (by decide +kernel) ?_
  refine tq_callS (as := [.long (tq_fl z2 1221)]) (st := []) (d1 := 0) (x1 := 0) (x2 := x) (by decide +kernel) ln_11_180 mf_J13_bitCount_95d88 rfl (by decide) np_J13_bitCount_95d88 rfl (Nat.le_of_ble_eq_true rfl) (by decide) (Nat.zero_add _).symm (tq_M_mono (am_J13_bitCount_95d88 h) ?_)
  refine tq_wi_e (fun r5 z4 h => ?_)
  refine tq_s_iload_n (kk := 1) (by decide +kernel) rfl ?_
  refine tq_s_aload_n (kk := 0) (by decide +kernel) rfl ?_
  refine fg_11_49_0 rfl (by decide +kernel) ?_
  refine fg_11_332_19 rfl (by decide +kernel) ?_
  refine tq_callS (as := [.long (tq_fl z4 1223)]) (st := [.int r3, .int r5]) (d1 := 0) (x1 := 0) (x2 := x) (by decide +kernel) ln_11_180 mf_J13_bitCount_95d88 rfl (by decide) np_J13_bitCount_95d88 rfl (Nat.le_of_ble_eq_true rfl) (by decide) (Nat.zero_add _).symm (tq_M_mono (am_J13_bitCount_95d88 h) ?_)
  refine tq_wi_e (fun r7 z6 h => ?_)
  refine tq_s_isub (by decide +kernel) ?_
  refine tq_icmp_ne (off := 7) (tgt := 47) (by decide +kernel) (by decide +kernel) (fun hc => ?_) (fun hc => ?_)
  · replace h := h.1 hc
    refine tq_k_ic (n := 0) (v := (0 : Int32)) (by decide +kernel) kc_0 ?_
    exact tq_ret_z (st := []) (ty := .boolean) (by decide +kernel) (by decide +kernel) rfl h
  · replace h := h.2 hc
    refine tq_k_ic (n := 1) (v := (1 : Int32)) (by decide +kernel) kc_1 ?_
    refine tq_s_goto (off := 4) (tgt := 48) (by decide +kernel) (by decide +kernel) ?_
    exact tq_ret_z (st := []) (ty := .boolean) (by decide +kernel) (by decide +kernel) rfl h
