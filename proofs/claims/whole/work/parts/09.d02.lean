def wm_X12_cuts  (z : tq_S) (Q : tq_O → tq_S → Prop) : Prop := wm_X12_hasNone (1 : Int32) z (tq_wi fun r2 z1 => ((r2 = 0 → wm_X12_cutsOf z1 (tq_wi fun r4 z3 => Q (.inl (some (.int r4))) z3)) ∧ (¬ r2 = 0 → Q (.inl (some (.int (0 : Int32)))) z1)))
theorem am_X12_cuts {K : Nat × (Nat → Int32)} {x : Nat} {z : tq_S} {Q : tq_O → tq_S → Prop}  (h : wm_X12_cuts z Q) : tq_M K 2 x mm_X12_cuts [.ref 51] z Q := by
  unfold wm_X12_cuts at h
  refine tq_enter (L := [.ref 51]) mf_X12_cuts.1 rfl rfl (Nat.le_of_ble_eq_true rfl) ?_
  refine tq_s_aload_n (kk := 0) (by decide +kernel) rfl ?_
  refine tq_k_ic (n := 1) (v := (1 : Int32)) (by decide +kernel) kc_1 ?_
  refine tq_callV (as := [.int (1 : Int32)]) (st := []) (d1 := 1) (x1 := 0) (x2 := x) (by decide +kernel) ln_12_257 mf_X12_hasNone rfl sh_51 rfl (by decide) np_X12_hasNone rfl (Nat.le_of_ble_eq_true rfl) (by decide) (Nat.zero_add _).symm (tq_M_mono (am_X12_hasNone h) ?_)
  refine tq_wi_e (fun r2 z1 h => ?_)
  refine tq_if_eq (off := 7) (tgt := 12) (by decide +kernel) (by decide +kernel) (fun hc => ?_) (fun hc => ?_)
  · replace h := h.1 hc
    refine tq_s_aload_n (kk := 0) (by decide +kernel) rfl ?_
    refine tq_callV (as := []) (st := []) (d1 := 0) (x1 := 0) (x2 := x) (by decide +kernel) ln_12_269 mf_X12_cutsOf rfl sh_51 rfl (by decide) np_X12_cutsOf rfl (Nat.le_of_ble_eq_true rfl) (by decide) (Nat.zero_add _).symm (tq_M_mono (am_X12_cutsOf h) ?_)
    refine tq_wi_e (fun r4 z3 h => ?_)
    exact tq_ret_i (st := []) (by decide +kernel) rfl h
  · replace h := h.2 hc
    refine tq_k_ic (n := 0) (v := (0 : Int32)) (by decide +kernel) kc_0 ?_
    refine tq_s_goto (off := 7) (tgt := 16) (by decide +kernel) (by decide +kernel) ?_
    exact tq_ret_i (st := []) (by decide +kernel) rfl h
def wc_X12_keep_41 (Q : tq_O → tq_S → Prop)  (z : tq_S) : Prop := wm_X12_cutsOf z (tq_wi fun r102 z101 => Q (.inl (some (.int r102))) z101)
theorem ac_X12_keep_41 {K : Nat × (Nat → Int32)} {x : Nat} {Q : tq_O → tq_S → Prop}  {z : tq_S} (h : wc_X12_keep_41 Q z) : tq_T K 2 x mm_X12_keep 41 [.ref 51, .null] [] z Q := by
  unfold wc_X12_keep_41 at h
  refine tq_s_aload_n (kk := 0) (by decide +kernel) rfl ?_
  refine tq_callV (as := []) (st := []) (d1 := 0) (x1 := 0) (x2 := x) (by decide +kernel) ln_12_269 mf_X12_cutsOf rfl sh_51 rfl (by decide) np_X12_cutsOf rfl (Nat.le_of_ble_eq_true rfl) (by decide) (Nat.zero_add _).symm (tq_M_mono (am_X12_cutsOf h) ?_)
  refine tq_wi_e (fun r102 z101 h => ?_)
  exact tq_ret_i (st := []) (by decide +kernel) rfl h
def wb_X12_keep_17 (B17 : Int32 → tq_S → Prop) (Q : tq_O → tq_S → Prop) (a1 : Int32) (z : tq_S) : Prop := (((64 : Int32) ≤ a1 → wc_X12_keep_41 Q z) ∧ (¬ (64 : Int32) ≤ a1 → vp_in a1 64 ∧ vp_in a1 64 ∧ ∀ z101 : tq_S, z101 = tq_sai z 57 (upd (tq_ai z 57) (Int32.toNatClampNeg a1) (vp_nar .char (tq_ai z 56 (Int32.toNatClampNeg a1)))) → ∀ v102 : Int32, v102 = a1 + (1 : Int32) → B17 v102 z101))
def wc_X12_keep_17 (Q : tq_O → tq_S → Prop) (a1 : Int32) (z : tq_S) : Prop := tq_lp (σ := Int32 × tq_S) (fun B s => wb_X12_keep_17 (fun b1 z => B (b1, z)) Q s.1 s.2) (a1, z)
theorem ab_X12_keep_17 {K : Nat × (Nat → Int32)} {x : Nat} {Q : tq_O → tq_S → Prop} {B17 : Int32 → tq_S → Prop} {a1 : Int32} {z : tq_S} (hB17 : ∀ (b1 : Int32) (z : tq_S), B17 b1 z → tq_T K 2 x mm_X12_keep 17 [.ref 51, .int b1] [] z Q) (h : wb_X12_keep_17 B17 Q a1 z) : tq_T K 2 x mm_X12_keep 17 [.ref 51, .int a1] [] z Q := by
  unfold wb_X12_keep_17 at h
  refine tq_s_iload_n (kk := 1) (by decide +kernel) rfl ?_
  refine tq_k_bi (n := 64) (v := (64 : Int32)) (by decide +kernel) kb_64 ?_
  refine tq_icmp_ge (off := 21) (tgt := 41) (by decide +kernel) (by decide +kernel) (fun hc => ?_) (fun hc => ?_)
  · replace h := h.1 hc
    exact tq_to (tq_lk1 (tq_ld1 tq_l0)) (ac_X12_keep_41 h)
  · replace h := h.2 hc
    refine tq_s_aload_n (kk := 0) (by decide +kernel) rfl ?_
    refine fg_12_34_51 rfl (by decide +kernel) ?_
    refine tq_s_iload_n (kk := 1) (by decide +kernel) rfl ?_
    refine tq_s_aload_n (kk := 0) (by decide +kernel) rfl ?_
    refine fg_12_30_51 rfl (by decide +kernel) ?_
    refine tq_s_iload_n (kk := 1) (by decide +kernel) rfl ?_
    refine tq_s_cald (by decide +kernel) sh_56 h.1 ?_
    replace h := h.2
    refine tq_g_cast (by decide +kernel) sh_57 h.1 (fun z101 ez101 => ?_)
    replace h := h.2 z101 ez101
    refine tq_g_iinc (i := 1) (fun v102 => [.ref 51, .int v102]) (by decide +kernel) rfl (1 : Int32) kc_1 (fun _ => rfl) (fun v102 ev102 => ?_)
    replace h := h v102 ev102
    refine tq_s_goto (off := -21) (tgt := 17) (by decide +kernel) (by decide +kernel) ?_
    exact hB17 _ _ h
theorem ac_X12_keep_17 {K : Nat × (Nat → Int32)} {x : Nat} {Q : tq_O → tq_S → Prop} {a1 : Int32} {z : tq_S} (h : wc_X12_keep_17 Q a1 z) : tq_T K 2 x mm_X12_keep 17 [.ref 51, .int a1] [] z Q :=
  tq_lp_T (σ := Int32 × tq_S) (s := (a1, z)) (G := fun s => tq_T K 2 x mm_X12_keep 17 [.ref 51, .int s.1] [] s.2 Q) (fun B hB s h => ab_X12_keep_17 (fun b1 z h => hB (b1, z) h) h) h
def wm_X12_keep  (z : tq_S) (Q : tq_O → tq_S → Prop) : Prop := wm_X12_hasNone (1 : Int32) z (tq_wi fun r2 z1 => ((r2 = 0 → ∀ z3 : tq_S, z3 = tq_sfi z1 3274 (1 : Int32) → wc_X12_keep_17 Q (0 : Int32) z3) ∧ (¬ r2 = 0 → Q (.inl (some (.int (0 : Int32)))) z1)))
theorem am_X12_keep {K : Nat × (Nat → Int32)} {x : Nat} {z : tq_S} {Q : tq_O → tq_S → Prop}  (h : wm_X12_keep z Q) : tq_M K 2 x mm_X12_keep [.ref 51] z Q := by
  unfold wm_X12_keep at h
  refine tq_enter (L := [.ref 51, .null]) mf_X12_keep.1 rfl rfl (Nat.le_of_ble_eq_true rfl) ?_
  refine tq_s_aload_n (kk := 0) (by decide +kernel) rfl ?_
  refine tq_k_ic (n := 1) (v := (1 : Int32)) (by decide +kernel) kc_1 ?_
  refine tq_callV (as := [.int (1 : Int32)]) (st := []) (d1 := 1) (x1 := 0) (x2 := x) (by decide +kernel) ln_12_257 mf_X12_hasNone rfl sh_51 rfl (by decide) np_X12_hasNone rfl (Nat.le_of_ble_eq_true rfl) (by decide) (Nat.zero_add _).symm (tq_M_mono (am_X12_hasNone h) ?_)
  refine tq_wi_e (fun r2 z1 h => ?_)
  refine tq_if_eq (off := 5) (tgt := 10) (by decide +kernel) (by decide +kernel) (fun hc => ?_) (fun hc => ?_)
  · replace h := h.1 hc
    refine tq_s_aload_n (kk := 0) (by decide +kernel) rfl ?_
    refine tq_k_ic (n := 1) (v := (1 : Int32)) (by decide +kernel) kc_1 ?_
    refine fp_12_136_51 rfl (by decide +kernel) ⟨by decide +kernel, by decide +kernel⟩ (fun z3 ez3 => ?_)
    replace h := h z3 ez3
    refine tq_k_ic (n := 0) (v := (0 : Int32)) (by decide +kernel) kc_0 ?_
    refine tq_s_istore_n (kk := 1) (L9 := [.ref 51, .int (0 : Int32)]) (by decide +kernel) (by decide) rfl ?_
    exact ac_X12_keep_17 h
  · replace h := h.2 hc
    refine tq_k_ic (n := 0) (v := (0 : Int32)) (by decide +kernel) kc_0 ?_
    exact tq_ret_i (st := []) (by decide +kernel) rfl h
def wm_X12_isCorner (a1 : Int32) (a2 : Int32) (z : tq_S) (Q : tq_O → tq_S → Prop) : Prop := wm_X12_isIn a1 (0 : Int32) (tq_fi z 3265) z (tq_wi fun r2 z1 => ((r2 = 0 → Q (.inl (some (.int (0 : Int32)))) z1) ∧ (¬ r2 = 0 → wm_X12_isIn a2 (0 : Int32) (tq_fi z1 3266) z1 (tq_wi fun r4 z3 => ((r4 = 0 → Q (.inl (some (.int (0 : Int32)))) z3) ∧ (¬ r4 = 0 → wm_X12_isCell a1 a2 z3 (tq_wi fun r6 z5 => ((¬ r6 = 0 → Q (.inl (some (.int (1 : Int32)))) z5) ∧ (r6 = 0 → wm_X12_isCell (a1 - (1 : Int32)) a2 z5 (tq_wi fun r8 z7 => ((¬ r8 = 0 → Q (.inl (some (.int (1 : Int32)))) z7) ∧ (r8 = 0 → wm_X12_isCell a1 (a2 - (1 : Int32)) z7 (tq_wi fun r10 z9 => ((¬ r10 = 0 → Q (.inl (some (.int (1 : Int32)))) z9) ∧ (r10 = 0 → wm_X12_isCell (a1 - (1 : Int32)) (a2 - (1 : Int32)) z9 (tq_wi fun r12 z11 => ((r12 = 0 → Q (.inl (some (.int (0 : Int32)))) z11) ∧ (¬ r12 = 0 → Q (.inl (some (.int (1 : Int32)))) z11))))))))))))))))))
theorem am_X12_isCorner {K : Nat × (Nat → Int32)} {x : Nat} {z : tq_S} {Q : tq_O → tq_S → Prop} {a1 : Int32} {a2 : Int32} (h : wm_X12_isCorner a1 a2 z Q) : tq_M K 2 x mm_X12_isCorner [.ref 51, .int a1, .int a2] z Q := by
  unfold wm_X12_isCorner at h
  refine tq_enter (L := [.ref 51, .int a1, .int a2]) mf_X12_isCorner.1 rfl rfl (Nat.le_of_ble_eq_true rfl) ?_
  refine tq_s_iload_n (kk := 1) (by decide +kernel) rfl ?_
  refine tq_k_ic (n := 0) (v := (0 : Int32)) (by decide +kernel) kc_0 ?_
  refine tq_s_aload_n (kk := 0) (by decide +kernel) rfl ?_
  refine fg_12_7_51 rfl (by decide +kernel) ?_
  refine tq_callS (as := [.int a1, .int (0 : Int32), .int (tq_fi z 3265)]) (st := []) (d1 := 0) (x1 := 0) (x2 := x) (by decide +kernel) ln_12_148 mf_X12_isIn rfl (by decide) np_X12_isIn rfl (Nat.le_of_ble_eq_true rfl) (by decide) (Nat.zero_add _).symm (tq_M_mono (am_X12_isIn h) ?_)
  refine tq_wi_e (fun r2 z1 h => ?_)
  refine tq_if_eq (off := 63) (tgt := 72) (by decide +kernel) (by decide +kernel) (fun hc => ?_) (fun hc => ?_)
  · replace h := h.1 hc
    refine tq_k_ic (n := 0) (v := (0 : Int32)) (by decide +kernel) kc_0 ?_
    exact tq_ret_z (st := []) (ty := .boolean) (by decide +kernel) (by decide +kernel) rfl h
  · replace h := h.2 hc
    refine tq_s_iload_n (kk := 2) (by decide +kernel) rfl ?_
    refine tq_k_ic (n := 0) (v := (0 : Int32)) (by decide +kernel) kc_0 ?_
    refine tq_s_aload_n (kk := 0) (by decide +kernel) rfl ?_
    refine fg_12_13_51 rfl (by decide +kernel) ?_
    refine tq_callS (as := [.int a2, .int (0 : Int32), .int (tq_fi z1 3266)]) (st := []) (d1 := 0) (x1 := 0) (x2 := x) (by decide +kernel) ln_12_148 mf_X12_isIn rfl (by decide) np_X12_isIn rfl (Nat.le_of_ble_eq_true rfl) (by decide) (Nat.zero_add _).symm (tq_M_mono (am_X12_isIn h) ?_)
    refine tq_wi_e (fun r4 z3 h => ?_)
    refine tq_if_eq (off := 51) (tgt := 72) (by decide +kernel) (by decide +kernel) (fun hc => ?_) (fun hc => ?_)
    · replace h := h.1 hc
      refine tq_k_ic (n := 0) (v := (0 : Int32)) (by decide +kernel) kc_0 ?_
      exact tq_ret_z (st := []) (ty := .boolean) (by decide +kernel) (by decide +kernel) rfl h
    · replace h := h.2 hc
      refine tq_s_aload_n (kk := 0) (by decide +kernel) rfl ?_
      refine tq_s_iload_n (kk := 1) (by decide +kernel) rfl ?_
      refine tq_s_iload_n (kk := 2) (by decide +kernel) rfl ?_
      refine tq_callV (as := [.int a1, .int a2]) (st := []) (d1 := 1) (x1 := 0) (x2 := x) (by decide +kernel) ln_12_164 mf_X12_isCell rfl sh_51 rfl (by decide) np_X12_isCell rfl (Nat.le_of_ble_eq_true rfl) (by decide) (Nat.zero_add _).symm (tq_M_mono (am_X12_isCell h) ?_)
      refine tq_wi_e (fun r6 z5 h => ?_)
      refine tq_if_ne (off := 38) (tgt := 68) (by decide +kernel) (by decide +kernel) (fun hc => ?_) (fun hc => ?_)
      · replace h := h.1 hc
        refine tq_k_ic (n := 1) (v := (1 : Int32)) (by decide +kernel) kc_1 ?_
        refine tq_s_goto (off := 4) (tgt := 73) (by decide +kernel) (by decide +kernel) ?_
        exact tq_ret_z (st := []) (ty := .boolean) (by decide +kernel) (by decide +kernel) rfl h
      · replace h := h.2 hc
        refine tq_s_aload_n (kk := 0) (by decide +kernel) rfl ?_
        refine tq_s_iload_n (kk := 1) (by decide +kernel) rfl ?_
        refine tq_k_ic (n := 1) (v := (1 : Int32)) (by decide +kernel) kc_1 ?_
        refine tq_s_isub (by decide +kernel) ?_
        refine tq_s_iload_n (kk := 2) (by decide +kernel) rfl ?_
        refine tq_callV (as := [.int (a1 - (1 : Int32)), .int a2]) (st := []) (d1 := 1) (x1 := 0) (x2 := x) (by decide +kernel) ln_12_164 mf_X12_isCell rfl sh_51 rfl (by decide) np_X12_isCell rfl (Nat.le_of_ble_eq_true rfl) (by decide) (Nat.zero_add _).symm (tq_M_mono (am_X12_isCell h) ?_)
        refine tq_wi_e (fun r8 z7 h => ?_)
        refine tq_if_ne (off := 27) (tgt := 68) (by decide +kernel) (by decide +kernel) (fun hc => ?_) (fun hc => ?_)
        · replace h := h.1 hc
          refine tq_k_ic (n := 1) (v := (1 : Int32)) (by decide +kernel) kc_1 ?_
          refine tq_s_goto (off := 4) (tgt := 73) (by decide +kernel) (by decide +kernel) ?_
          exact tq_ret_z (st := []) (ty := .boolean) (by decide +kernel) (by decide +kernel) rfl h
        · replace h := h.2 hc
          refine tq_s_aload_n (kk := 0) (by decide +kernel) rfl ?_
          refine tq_s_iload_n (kk := 1) (by decide +kernel) rfl ?_
          refine tq_s_iload_n (kk := 2) (by decide +kernel) rfl ?_
          refine tq_k_ic (n := 1) (v := (1 : Int32)) (by decide +kernel) kc_1 ?_
          refine tq_s_isub (by decide +kernel) ?_
          refine tq_callV (as := [.int a1, .int (a2 - (1 : Int32))]) (st := []) (d1 := 1) (x1 := 0) (x2 := x) (by decide +kernel) ln_12_164 mf_X12_isCell rfl sh_51 rfl (by decide) np_X12_isCell rfl (Nat.le_of_ble_eq_true rfl) (by decide) (Nat.zero_add _).symm (tq_M_mono (am_X12_isCell h) ?_)
          refine tq_wi_e (fun r10 z9 h => ?_)
          refine tq_if_ne (off := 16) (tgt := 68) (by decide +kernel) (by decide +kernel) (fun hc => ?_) (fun hc => ?_)
          · replace h := h.1 hc
            refine tq_k_ic (n := 1) (v := (1 : Int32)) (by decide +kernel) kc_1 ?_
            refine tq_s_goto (off := 4) (tgt := 73) (by decide +kernel) (by decide +kernel) ?_
            exact tq_ret_z (st := []) (ty := .boolean) (by decide +kernel) (by decide +kernel) rfl h
          · replace h := h.2 hc
            refine tq_s_aload_n (kk := 0) (by decide +kernel) rfl ?_
            refine tq_s_iload_n (kk := 1) (by decide +kernel) rfl ?_
            refine tq_k_ic (n := 1) (v := (1 : Int32)) (by decide +kernel) kc_1 ?_
            refine tq_s_isub (by decide +kernel) ?_
            refine tq_s_iload_n (kk := 2) (by decide +kernel) rfl ?_
            refine tq_k_ic (n := 1) (v := (1 : Int32)) (by decide +kernel) kc_1 ?_
            refine tq_s_isub (by decide +kernel) ?_
            refine tq_callV (as := [.int (a1 - (1 : Int32)), .int (a2 - (1 : Int32))]) (st := []) (d1 := 1) (x1 := 0) (x2 := x) (by decide +kernel) ln_12_164 mf_X12_isCell rfl sh_51 rfl (by decide) np_X12_isCell rfl (Nat.le_of_ble_eq_true rfl) (by decide) (Nat.zero_add _).symm (tq_M_mono (am_X12_isCell h) ?_)
            refine tq_wi_e (fun r12 z11 h => ?_)
            refine tq_if_eq (off := 7) (tgt := 72) (by decide +kernel) (by decide +kernel) (fun hc => ?_) (fun hc => ?_)
            · replace h := h.1 hc
              refine tq_k_ic (n := 0) (v := (0 : Int32)) (by decide +kernel) kc_0 ?_
              exact tq_ret_z (st := []) (ty := .boolean) (by decide +kernel) (by decide +kernel) rfl h
            · replace h := h.2 hc
              refine tq_k_ic (n := 1) (v := (1 : Int32)) (by decide +kernel) kc_1 ?_
              refine tq_s_goto (off := 4) (tgt := 73) (by decide +kernel) (by decide +kernel) ?_
              exact tq_ret_z (st := []) (ty := .boolean) (by decide +kernel) (by decide +kernel) rfl h
def wc_X12_along_131 (Q : tq_O → tq_S → Prop) (a1 : Int32) (a2 : Int32) (a7 : Int32) (z : tq_S) : Prop := wm_X12_isDark a1 a2 z (tq_wi fun r102 z101 => ((r102 = 0 → ((a7 = 0 → Q (.inl (some (.int (-1 : Int32)))) z101) ∧ (¬ a7 = 0 → Q (.inl (some (.int (3 : Int32)))) z101))) ∧ (¬ r102 = 0 → ((a7 = 0 → Q (.inl (some (.int (1 : Int32)))) z101) ∧ (¬ a7 = 0 → Q (.inl (some (.int (-3 : Int32)))) z101)))))
theorem ac_X12_along_131 {K : Nat × (Nat → Int32)} {x : Nat} {Q : tq_O → tq_S → Prop} {a1 : Int32} {a2 : Int32} {a7 : Int32} {z : tq_S} (h : wc_X12_along_131 Q a1 a2 a7 z) : tq_T K 2 x mm_X12_along 131 [.null, .int a1, .int a2, .null, .null, .null, .null, .int a7, .null, .null, .null] [] z Q := by
  unfold wc_X12_along_131 at h
  refine tq_s_iload_n (kk := 1) (by decide +kernel) rfl ?_
  refine tq_s_iload_n (kk := 2) (by decide +kernel) rfl ?_
  refine tq_callS (as := [.int a1, .int a2]) (st := []) (d1 := 0) (x1 := 0) (x2 := x) (by decide +kernel) ln_12_168 mf_X12_isDark rfl (by decide) np_X12_isDark rfl (Nat.le_of_ble_eq_true rfl) (by decide) (Nat.zero_add _).symm (tq_M_mono (am_X12_isDark h) ?_)
  refine tq_wi_e (fun r102 z101 h => ?_)
  refine tq_if_eq (off := 17) (tgt := 153) (by decide +kernel) (by decide +kernel) (fun hc => ?_) (fun hc => ?_)
  · replace h := h.1 hc
    refine tq_s_iload (i := 7) (by decide +kernel) rfl ?_
    refine tq_if_eq (off := 7) (tgt := 162) (by decide +kernel) (by decide +kernel) (fun hc => ?_) (fun hc => ?_)
    · replace h := h.1 hc
      refine tq_k_ic (n := -1) (v := (-1 : Int32)) (by decide +kernel) kc_m1 ?_
      exact tq_ret_i (st := []) (by decide +kernel) rfl h
    · replace h := h.2 hc
      refine tq_k_ic (n := 3) (v := (3 : Int32)) (by decide +kernel) kc_3 ?_
      refine tq_s_goto (off := 4) (tgt := 163) (by decide +kernel) (by decide +kernel) ?_
      exact tq_ret_i (st := []) (by decide +kernel) rfl h
  · replace h := h.2 hc
    refine tq_s_iload (i := 7) (by decide +kernel) rfl ?_
    refine tq_if_eq (off := 8) (tgt := 149) (by decide +kernel) (by decide +kernel) (fun hc => ?_) (fun hc => ?_)
    · replace h := h.1 hc
      refine tq_k_ic (n := 1) (v := (1 : Int32)) (by decide +kernel) kc_1 ?_
      refine tq_s_goto (off := 13) (tgt := 163) (by decide +kernel) (by decide +kernel) ?_
      exact tq_ret_i (st := []) (by decide +kernel) rfl h
    · replace h := h.2 hc
      refine tq_k_bi (n := -3) (v := (-3 : Int32)) (by decide +kernel) kb_m3 ?_
      refine tq_s_goto (off := 17) (tgt := 163) (by decide +kernel) (by decide +kernel) ?_
      exact tq_ret_i (st := []) (by decide +kernel) rfl h
def wc_X12_along_129 (Q : tq_O → tq_S → Prop) (a1 : Int32) (a2 : Int32) (s0 : Int32) (z : tq_S) : Prop := wc_X12_along_131 Q a1 a2 s0 z
theorem ac_X12_along_129 {K : Nat × (Nat → Int32)} {x : Nat} {Q : tq_O → tq_S → Prop} {a1 : Int32} {a2 : Int32} {s0 : Int32} {z : tq_S} (h : wc_X12_along_129 Q a1 a2 s0 z) : tq_T K 2 x mm_X12_along 129 [.null, .int a1, .int a2, .null, .null, .null, .null, .null, .null, .null, .null] [.int s0] z Q := by
  unfold wc_X12_along_129 at h
  refine tq_s_istore (i := 7) (L9 := [.null, .int a1, .int a2, .null, .null, .null, .null, .int s0, .null, .null, .null]) (by decide +kernel) (by decide) rfl ?_
  exact ac_X12_along_131 h
def wc_X12_along_128 (Q : tq_O → tq_S → Prop) (a1 : Int32) (a2 : Int32) (z : tq_S) : Prop := wc_X12_along_129 Q a1 a2 (0 : Int32) z
theorem ac_X12_along_128 {K : Nat × (Nat → Int32)} {x : Nat} {Q : tq_O → tq_S → Prop} {a1 : Int32} {a2 : Int32} {z : tq_S} (h : wc_X12_along_128 Q a1 a2 z) : tq_T K 2 x mm_X12_along 128 [.null, .int a1, .int a2, .null, .null, .null, .null, .null, .null, .null, .null] [] z Q := by
  unfold wc_X12_along_128 at h
  refine tq_k_ic (n := 0) (v := (0 : Int32)) (by decide +kernel) kc_0 ?_
  exact ac_X12_along_129 h
def wc_X12_along_108 (Q : tq_O → tq_S → Prop) (a1 : Int32) (a2 : Int32) (a3 : Int32) (a4 : Int32) (a9 : Int32) (s0 : Int32) (s1 : Int32) (z : tq_S) : Prop := ∀ v101 : Int32, v101 = (s1 + s0) → ((¬ a9 = a3 → wc_X12_along_128 Q a1 a2 z) ∧ (a9 = a3 → ((¬ v101 = a4 → wc_X12_along_128 Q a1 a2 z) ∧ (v101 = a4 → wc_X12_along_129 Q a1 a2 (1 : Int32) z))))
theorem ac_X12_along_108 {K : Nat × (Nat → Int32)} {x : Nat} {Q : tq_O → tq_S → Prop} {a1 : Int32} {a2 : Int32} {a3 : Int32} {a4 : Int32} {a9 : Int32} {s0 : Int32} {s1 : Int32} {z : tq_S} (h : wc_X12_along_108 Q a1 a2 a3 a4 a9 s0 s1 z) : tq_T K 2 x mm_X12_along 108 [.null, .int a1, .int a2, .int a3, .int a4, .null, .null, .null, .null, .int a9, .null] [.int s0, .int s1] z Q := by
  unfold wc_X12_along_108 at h
  refine tq_s_iadd (by decide +kernel) ?_
  refine tq_g_istore (i := 10) (fun v101 => [.null, .int a1, .int a2, .int a3, .int a4, .null, .null, .null, .null, .int a9, .int v101]) (by decide +kernel) (by decide) (fun _ => rfl) (fun v101 ev101 => ?_)
  replace h := h v101 ev101
  refine tq_s_iload (i := 9) (by decide +kernel) rfl ?_
  refine tq_s_iload_n (kk := 3) (by decide +kernel) rfl ?_
  refine tq_icmp_ne (off := 14) (tgt := 128) (by decide +kernel) (by decide +kernel) (fun hc => ?_) (fun hc => ?_)
  · replace h := h.1 hc
    exact tq_to (tq_lk1 (tq_lk1 (tq_lk1 (tq_ld1 (tq_ld1 (tq_lk1 (tq_lk1 (tq_lk1 (tq_lk1 (tq_ld1 (tq_ld1 tq_l0))))))))))) (ac_X12_along_128 h)
  · replace h := h.2 hc
    refine tq_s_iload (i := 10) (by decide +kernel) rfl ?_
    refine tq_s_iload (i := 4) (by decide +kernel) rfl ?_
    refine tq_icmp_ne (off := 7) (tgt := 128) (by decide +kernel) (by decide +kernel) (fun hc => ?_) (fun hc => ?_)
    · replace h := h.1 hc
      exact tq_to (tq_lk1 (tq_lk1 (tq_lk1 (tq_ld1 (tq_ld1 (tq_lk1 (tq_lk1 (tq_lk1 (tq_lk1 (tq_ld1 (tq_ld1 tq_l0))))))))))) (ac_X12_along_128 h)
    · replace h := h.2 hc
      refine tq_k_ic (n := 1) (v := (1 : Int32)) (by decide +kernel) kc_1 ?_
      refine tq_s_goto (off := 4) (tgt := 129) (by decide +kernel) (by decide +kernel) ?_
      exact tq_to (tq_lk1 (tq_lk1 (tq_lk1 (tq_ld1 (tq_ld1 (tq_lk1 (tq_lk1 (tq_lk1 (tq_lk1 (tq_ld1 (tq_ld1 tq_l0))))))))))) (ac_X12_along_129 h)
def wc_X12_along_81 (Q : tq_O → tq_S → Prop) (a1 : Int32) (a2 : Int32) (a3 : Int32) (a4 : Int32) (a8 : Int32) (s0 : Int32) (s1 : Int32) (z : tq_S) : Prop := ∀ v101 : Int32, v101 = (s1 + s0) → ((¬ a8 = (115 : Int32) → ((¬ a8 = (110 : Int32) → wc_X12_along_108 Q a1 a2 a3 a4 v101 (0 : Int32) a2 z) ∧ (a8 = (110 : Int32) → wc_X12_along_108 Q a1 a2 a3 a4 v101 (-1 : Int32) a2 z))) ∧ (a8 = (115 : Int32) → wc_X12_along_108 Q a1 a2 a3 a4 v101 (1 : Int32) a2 z))
theorem ac_X12_along_81 {K : Nat × (Nat → Int32)} {x : Nat} {Q : tq_O → tq_S → Prop} {a1 : Int32} {a2 : Int32} {a3 : Int32} {a4 : Int32} {a8 : Int32} {s0 : Int32} {s1 : Int32} {z : tq_S} (h : wc_X12_along_81 Q a1 a2 a3 a4 a8 s0 s1 z) : tq_T K 2 x mm_X12_along 81 [.null, .int a1, .int a2, .int a3, .int a4, .null, .null, .null, .int a8, .null, .null] [.int s0, .int s1] z Q := by
  unfold wc_X12_along_81 at h
  refine tq_s_iadd (by decide +kernel) ?_
  refine tq_g_istore (i := 9) (fun v101 => [.null, .int a1, .int a2, .int a3, .int a4, .null, .null, .null, .int a8, .int v101, .null]) (by decide +kernel) (by decide) (fun _ => rfl) (fun v101 ev101 => ?_)
  replace h := h v101 ev101
  refine tq_s_iload_n (kk := 2) (by decide +kernel) rfl ?_
  refine tq_s_iload (i := 8) (by decide +kernel) rfl ?_
  refine tq_k_bi (n := 115) (v := (115 : Int32)) (by decide +kernel) kb_115 ?_
  refine tq_icmp_ne (off := 7) (tgt := 96) (by decide +kernel) (by decide +kernel) (fun hc => ?_) (fun hc => ?_)
  · replace h := h.1 hc
    refine tq_s_iload (i := 8) (by decide +kernel) rfl ?_
    refine tq_k_bi (n := 110) (v := (110 : Int32)) (by decide +kernel) kb_110 ?_
    refine tq_icmp_ne (off := 7) (tgt := 107) (by decide +kernel) (by decide +kernel) (fun hc => ?_) (fun hc => ?_)
    · replace h := h.1 hc
      refine tq_k_ic (n := 0) (v := (0 : Int32)) (by decide +kernel) kc_0 ?_
      exact tq_to (tq_lk1 (tq_lk1 (tq_lk1 (tq_lk1 (tq_lk1 (tq_lk1 (tq_lk1 (tq_lk1 (tq_ld1 (tq_lk1 (tq_lk1 tq_l0))))))))))) (ac_X12_along_108 h)
    · replace h := h.2 hc
      refine tq_k_ic (n := -1) (v := (-1 : Int32)) (by decide +kernel) kc_m1 ?_
      refine tq_s_goto (off := 4) (tgt := 108) (by decide +kernel) (by decide +kernel) ?_
      exact tq_to (tq_lk1 (tq_lk1 (tq_lk1 (tq_lk1 (tq_lk1 (tq_lk1 (tq_lk1 (tq_lk1 (tq_ld1 (tq_lk1 (tq_lk1 tq_l0))))))))))) (ac_X12_along_108 h)
  · replace h := h.2 hc
    refine tq_k_ic (n := 1) (v := (1 : Int32)) (by decide +kernel) kc_1 ?_
    refine tq_s_goto (off := 15) (tgt := 108) (by decide +kernel) (by decide +kernel) ?_
    exact tq_to (tq_lk1 (tq_lk1 (tq_lk1 (tq_lk1 (tq_lk1 (tq_lk1 (tq_lk1 (tq_lk1 (tq_ld1 (tq_lk1 (tq_lk1 tq_l0))))))))))) (ac_X12_along_108 h)
def wc_X12_along_31 (Q : tq_O → tq_S → Prop) (a1 : Int32) (a2 : Int32) (a3 : Int32) (a4 : Int32) (a5 : Int32) (a6 : Int32) (z : tq_S) : Prop := ((a5 = 0 → wc_X12_along_131 Q a1 a2 (0 : Int32) z) ∧ (¬ a5 = 0 → ((a6 = 0 → wc_X12_along_131 Q a1 a2 (0 : Int32) z) ∧ (¬ a6 = 0 → vp_in (((8 : Int32) * a2) + a1) 64 ∧ ∀ v101 : Int32, v101 = (tq_ai z 56 (Int32.toNatClampNeg (((8 : Int32) * a2) + a1))) → ((¬ v101 = (101 : Int32) → ((¬ v101 = (119 : Int32) → wc_X12_along_81 Q a1 a2 a3 a4 v101 (0 : Int32) a1 z) ∧ (v101 = (119 : Int32) → wc_X12_along_81 Q a1 a2 a3 a4 v101 (-1 : Int32) a1 z))) ∧ (v101 = (101 : Int32) → wc_X12_along_81 Q a1 a2 a3 a4 v101 (1 : Int32) a1 z))))))
theorem ac_X12_along_31 {K : Nat × (Nat → Int32)} {x : Nat} {Q : tq_O → tq_S → Prop} {a1 : Int32} {a2 : Int32} {a3 : Int32} {a4 : Int32} {a5 : Int32} {a6 : Int32} {z : tq_S} (h : wc_X12_along_31 Q a1 a2 a3 a4 a5 a6 z) : tq_T K 2 x mm_X12_along 31 [.ref 51, .int a1, .int a2, .int a3, .int a4, .int a5, .int a6, .null, .null, .null, .null] [] z Q := by
  unfold wc_X12_along_31 at h
  refine tq_k_ic (n := 0) (v := (0 : Int32)) (by decide +kernel) kc_0 ?_
  refine tq_s_istore (i := 7) (L9 := [.ref 51, .int a1, .int a2, .int a3, .int a4, .int a5, .int a6, .int (0 : Int32), .null, .null, .null]) (by decide +kernel) (by decide) rfl ?_
  refine tq_s_iload (i := 5) (by decide +kernel) rfl ?_
  refine tq_if_eq (off := 95) (tgt := 131) (by decide +kernel) (by decide +kernel) (fun hc => ?_) (fun hc => ?_)
  · replace h := h.1 hc
    exact tq_to (tq_ld1 (tq_lk1 (tq_lk1 (tq_ld1 (tq_ld1 (tq_ld1 (tq_ld1 (tq_lk1 (tq_lk1 (tq_lk1 (tq_lk1 tq_l0))))))))))) (ac_X12_along_131 h)
  · replace h := h.2 hc
    refine tq_s_iload (i := 6) (by decide +kernel) rfl ?_
    refine tq_if_eq (off := 90) (tgt := 131) (by decide +kernel) (by decide +kernel) (fun hc => ?_) (fun hc => ?_)
    · replace h := h.1 hc
      exact tq_to (tq_ld1 (tq_lk1 (tq_lk1 (tq_ld1 (tq_ld1 (tq_ld1 (tq_ld1 (tq_lk1 (tq_lk1 (tq_lk1 (tq_lk1 tq_l0))))))))))) (ac_X12_along_131 h)
    · replace h := h.2 hc
      refine tq_s_aload_n (kk := 0) (by decide +kernel) rfl ?_
      refine fg_12_30_51 rfl (by decide +kernel) ?_
      refine tq_k_bi (n := 8) (v := (8 : Int32)) (by decide +kernel) kb_8 ?_
      refine tq_s_iload_n (kk := 2) (by decide +kernel) rfl ?_
      refine tq_s_imul (by decide +kernel) ?_
      refine tq_s_iload_n (kk := 1) (by decide +kernel) rfl ?_
      refine tq_s_iadd (by decide +kernel) ?_
      refine tq_s_cald (by decide +kernel) sh_56 h.1 ?_
      replace h := h.2
      refine tq_g_istore (i := 8) (fun v101 => [.ref 51, .int a1, .int a2, .int a3, .int a4, .int a5, .int a6, .int (0 : Int32), .int v101, .null, .null]) (by decide +kernel) (by decide) (fun _ => rfl) (fun v101 ev101 => ?_)
      replace h := h v101 ev101
      refine tq_s_iload_n (kk := 1) (by decide +kernel) rfl ?_
      refine tq_s_iload (i := 8) (by decide +kernel) rfl ?_
      refine tq_k_bi (n := 101) (v := (101 : Int32)) (by decide +kernel) kb_101 ?_
      refine tq_icmp_ne (off := 7) (tgt := 69) (by decide +kernel) (by decide +kernel) (fun hc => ?_) (fun hc => ?_)
      · replace h := h.1 hc
        refine tq_s_iload (i := 8) (by decide +kernel) rfl ?_
        refine tq_k_bi (n := 119) (v := (119 : Int32)) (by decide +kernel) kb_119 ?_
        refine tq_icmp_ne (off := 7) (tgt := 80) (by decide +kernel) (by decide +kernel) (fun hc => ?_) (fun hc => ?_)
        · replace h := h.1 hc
          refine tq_k_ic (n := 0) (v := (0 : Int32)) (by decide +kernel) kc_0 ?_
          exact tq_to (tq_ld1 (tq_lk1 (tq_lk1 (tq_lk1 (tq_lk1 (tq_ld1 (tq_ld1 (tq_ld1 (tq_lk1 (tq_lk1 (tq_lk1 tq_l0))))))))))) (ac_X12_along_81 h)
        · replace h := h.2 hc
          refine tq_k_ic (n := -1) (v := (-1 : Int32)) (by decide +kernel) kc_m1 ?_
          refine tq_s_goto (off := 4) (tgt := 81) (by decide +kernel) (by decide +kernel) ?_
          exact tq_to (tq_ld1 (tq_lk1 (tq_lk1 (tq_lk1 (tq_lk1 (tq_ld1 (tq_ld1 (tq_ld1 (tq_lk1 (tq_lk1 (tq_lk1 tq_l0))))))))))) (ac_X12_along_81 h)
      · replace h := h.2 hc
        refine tq_k_ic (n := 1) (v := (1 : Int32)) (by decide +kernel) kc_1 ?_
        refine tq_s_goto (off := 15) (tgt := 81) (by decide +kernel) (by decide +kernel) ?_
        exact tq_to (tq_ld1 (tq_lk1 (tq_lk1 (tq_lk1 (tq_lk1 (tq_ld1 (tq_ld1 (tq_ld1 (tq_lk1 (tq_lk1 (tq_lk1 tq_l0))))))))))) (ac_X12_along_81 h)
def wm_X12_along (a1 : Int32) (a2 : Int32) (a3 : Int32) (a4 : Int32) (z : tq_S) (Q : tq_O → tq_S → Prop) : Prop := wm_X12_isCell a1 a2 z (tq_wi fun r2 z1 => wm_X12_isCell a3 a4 z1 (tq_wi fun r4 z3 => ((¬ r2 = 0 → wc_X12_along_31 Q a1 a2 a3 a4 r2 r4 z3) ∧ (r2 = 0 → ((¬ r4 = 0 → wc_X12_along_31 Q a1 a2 a3 a4 r2 r4 z3) ∧ (r4 = 0 → Q (.inl (some (.int (1000000 : Int32)))) z3))))))
theorem am_X12_along {K : Nat × (Nat → Int32)} {x : Nat} {z : tq_S} {Q : tq_O → tq_S → Prop} {a1 : Int32} {a2 : Int32} {a3 : Int32} {a4 : Int32} (h : wm_X12_along a1 a2 a3 a4 z Q) : tq_M K 2 x mm_X12_along [.ref 51, .int a1, .int a2, .int a3, .int a4] z Q := by
  unfold wm_X12_along at h
  refine tq_enter (L := [.ref 51, .int a1, .int a2, .int a3, .int a4, .null, .null, .null, .null, .null, .null]) mf_X12_along.1 rfl rfl (Nat.le_of_ble_eq_true rfl) ?_
  refine tq_s_aload_n (kk := 0) (by decide +kernel) rfl ?_
  refine tq_s_iload_n (kk := 1) (by decide +kernel) rfl ?_
  refine tq_s_iload_n (kk := 2) (by decide +kernel) rfl ?_
  refine tq_callV (as := [.int a1, .int a2]) (st := []) (d1 := 1) (x1 := 0) (x2 := x) (by decide +kernel) ln_12_164 mf_X12_isCell rfl sh_51 rfl (by decide) np_X12_isCell rfl (Nat.le_of_ble_eq_true rfl) (by decide) (Nat.zero_add _).symm (tq_M_mono (am_X12_isCell h) ?_)
  refine tq_wi_e (fun r2 z1 h => ?_)
  refine tq_s_istore (i := 5) (L9 := [.ref 51, .int a1, .int a2, .int a3, .int a4, .int r2, .null, .null, .null, .null, .null]) (by decide +kernel) (by decide) rfl ?_
  refine tq_s_aload_n (kk := 0) (by decide +kernel) rfl ?_
  refine tq_s_iload_n (kk := 3) (by decide +kernel) rfl ?_
  refine tq_s_iload (i := 4) (by decide +kernel) rfl ?_
  refine tq_callV (as := [.int a3, .int a4]) (st := []) (d1 := 1) (x1 := 0) (x2 := x) (by decide +kernel) ln_12_164 mf_X12_isCell rfl sh_51 rfl (by decide) np_X12_isCell rfl (Nat.le_of_ble_eq_true rfl) (by decide) (Nat.zero_add _).symm (tq_M_mono (am_X12_isCell h) ?_)
  refine tq_wi_e (fun r4 z3 h => ?_)
  refine tq_s_istore (i := 6) (L9 := [.ref 51, .int a1, .int a2, .int a3, .int a4, .int r2, .int r4, .null, .null, .null, .null]) (by decide +kernel) (by decide) rfl ?_
  refine tq_s_iload (i := 5) (by decide +kernel) rfl ?_
  refine tq_if_ne (off := 12) (tgt := 31) (by decide +kernel) (by decide +kernel) (fun hc => ?_) (fun hc => ?_)
  · replace h := h.1 hc
    exact ac_X12_along_31 h
  · replace h := h.2 hc
    refine tq_s_iload (i := 6) (by decide +kernel) rfl ?_
    refine tq_if_ne (off := 7) (tgt := 31) (by decide +kernel) (by decide +kernel) (fun hc => ?_) (fun hc => ?_)
    · replace h := h.1 hc
      exact ac_X12_along_31 h
    · replace h := h.2 hc
      refine tq_s_ldcw (i := 272) (v := (1000000 : Int32)) (by decide +kernel) (by decide +kernel) ?_
      exact tq_ret_i (st := []) (by decide +kernel) rfl h
def wc_X12_tellFrom_287 (B32 : Int32 → Int32 → tq_S → Prop) (B65 : Int32 → Int32 → tq_S → Prop) (Q : tq_O → tq_S → Prop) (a3 : Int32) (a4 : Int32) (a5 : Int32) (a6 : Int32) (a7 : Int32) (z : tq_S) : Prop := ∀ v101 : Int32, v101 = a7 + (1 : Int32) → B65 a3 v101 z
theorem ac_X12_tellFrom_287 {K : Nat × (Nat → Int32)} {x : Nat} {Q : tq_O → tq_S → Prop} {B32 : Int32 → Int32 → tq_S → Prop} {B65 : Int32 → Int32 → tq_S → Prop} {a3 : Int32} {a4 : Int32} {a5 : Int32} {a6 : Int32} {a7 : Int32} {z : tq_S} (hB32 : ∀ (b3 : Int32) (b4 : Int32) (z : tq_S), B32 b3 b4 z → tq_T K 3 x mm_X12_tellFrom 32 [.ref 51, .null, .null, .int b3, .int b4, .null, .null, .null, .null, .null, .null] [] z Q) (hB65 : ∀ (b3 : Int32) (b7 : Int32) (z : tq_S), B65 b3 b7 z → tq_T K 3 x mm_X12_tellFrom 65 [.ref 51, .null, .null, .int b3, .int a4, .int a5, .int a6, .int b7, .null, .null, .null] [] z Q) (h : wc_X12_tellFrom_287 B32 B65 Q a3 a4 a5 a6 a7 z) : tq_T K 3 x mm_X12_tellFrom 287 [.ref 51, .null, .null, .int a3, .int a4, .int a5, .int a6, .int a7, .null, .null, .null] [] z Q := by
  unfold wc_X12_tellFrom_287 at h
  refine tq_g_iinc (i := 7) (fun v101 => [.ref 51, .null, .null, .int a3, .int a4, .int a5, .int a6, .int v101, .null, .null, .null]) (by decide +kernel) rfl (1 : Int32) kc_1 (fun _ => rfl) (fun v101 ev101 => ?_)
  replace h := h v101 ev101
  refine tq_s_goto (off := -225) (tgt := 65) (by decide +kernel) (by decide +kernel) ?_
  exact hB65 _ _ _ h
def wc_X12_tellFrom_212 (B32 : Int32 → Int32 → tq_S → Prop) (B65 : Int32 → Int32 → tq_S → Prop) (Q : tq_O → tq_S → Prop) (a3 : Int32) (a4 : Int32) (a5 : Int32) (a6 : Int32) (a7 : Int32) (a8 : Int32) (a9 : Int32) (s0 : Int32) (z : tq_S) : Prop := ((s0 = (1000000 : Int32) → wc_X12_tellFrom_287 B32 B65 Q a3 a4 a5 a6 a7 z) ∧ (¬ s0 = (1000000 : Int32) → vp_in (((9 : Int32) * a9) + a8) 81 ∧ ((¬ (tq_ai z 63 (Int32.toNatClampNeg (((9 : Int32) * a9) + a8))) = (1000000 : Int32) → wc_X12_tellFrom_287 B32 B65 Q a3 a4 a5 a6 a7 z) ∧ ((tq_ai z 63 (Int32.toNatClampNeg (((9 : Int32) * a9) + a8))) = (1000000 : Int32) → vp_in (((9 : Int32) * a6) + a5) 81 ∧ vp_in (((9 : Int32) * a9) + a8) 81 ∧ ∀ z101 : tq_S, z101 = tq_sai z 63 (upd (tq_ai z 63) (Int32.toNatClampNeg (((9 : Int32) * a9) + a8)) ((tq_ai z 63 (Int32.toNatClampNeg (((9 : Int32) * a6) + a5))) + s0)) → vp_in a3 81 ∧ ∀ z102 : tq_S, z102 = tq_sai z101 65 (upd (tq_ai z101 65) (Int32.toNatClampNeg a3) (((9 : Int32) * a9) + a8)) → ∀ v103 : Int32, v103 = a3 + (1 : Int32) → wc_X12_tellFrom_287 B32 B65 Q v103 a4 a5 a6 a7 z102))))
theorem ac_X12_tellFrom_212 {K : Nat × (Nat → Int32)} {x : Nat} {Q : tq_O → tq_S → Prop} {B32 : Int32 → Int32 → tq_S → Prop} {B65 : Int32 → Int32 → tq_S → Prop} {a3 : Int32} {a4 : Int32} {a5 : Int32} {a6 : Int32} {a7 : Int32} {a8 : Int32} {a9 : Int32} {s0 : Int32} {z : tq_S} (hB32 : ∀ (b3 : Int32) (b4 : Int32) (z : tq_S), B32 b3 b4 z → tq_T K 3 x mm_X12_tellFrom 32 [.ref 51, .null, .null, .int b3, .int b4, .null, .null, .null, .null, .null, .null] [] z Q) (hB65 : ∀ (b3 : Int32) (b7 : Int32) (z : tq_S), B65 b3 b7 z → tq_T K 3 x mm_X12_tellFrom 65 [.ref 51, .null, .null, .int b3, .int a4, .int a5, .int a6, .int b7, .null, .null, .null] [] z Q) (h : wc_X12_tellFrom_212 B32 B65 Q a3 a4 a5 a6 a7 a8 a9 s0 z) : tq_T K 3 x mm_X12_tellFrom 212 [.ref 51, .null, .null, .int a3, .int a4, .int a5, .int a6, .int a7, .int a8, .int a9, .null] [.int s0] z Q := by
  unfold wc_X12_tellFrom_212 at h
  refine tq_s_istore (i := 10) (L9 := [.ref 51, .null, .null, .int a3, .int a4, .int a5, .int a6, .int a7, .int a8, .int a9, .int s0]) (by decide +kernel) (by decide) rfl ?_
  refine tq_s_iload (i := 10) (by decide +kernel) rfl ?_
  refine tq_s_ldcw (i := 272) (v := (1000000 : Int32)) (by decide +kernel) (by decide +kernel) ?_
  refine tq_icmp_eq (off := 68) (tgt := 287) (by decide +kernel) (by decide +kernel) (fun hc => ?_) (fun hc => ?_)
  · replace h := h.1 hc
    exact tq_to (tq_lk1 (tq_lk1 (tq_lk1 (tq_lk1 (tq_lk1 (tq_lk1 (tq_lk1 (tq_lk1 (tq_ld1 (tq_ld1 (tq_ld1 tq_l0))))))))))) (ac_X12_tellFrom_287 hB32 hB65 h)
  · replace h := h.2 hc
    refine tq_s_aload_n (kk := 0) (by decide +kernel) rfl ?_
    refine fg_12_53_51 rfl (by decide +kernel) ?_
    refine tq_k_bi (n := 9) (v := (9 : Int32)) (by decide +kernel) kb_9 ?_
    refine tq_s_iload (i := 9) (by decide +kernel) rfl ?_
    refine tq_s_imul (by decide +kernel) ?_
    refine tq_s_iload (i := 8) (by decide +kernel) rfl ?_
    refine tq_s_iadd (by decide +kernel) ?_
    refine tq_s_iald (by decide +kernel) sh_63 h.1 ?_
    replace h := h.2
    refine tq_s_ldcw (i := 272) (v := (1000000 : Int32)) (by decide +kernel) (by decide +kernel) ?_
    refine tq_icmp_ne (off := 49) (tgt := 287) (by decide +kernel) (by decide +kernel) (fun hc => ?_) (fun hc => ?_)
    · replace h := h.1 hc
      exact tq_to (tq_lk1 (tq_lk1 (tq_lk1 (tq_lk1 (tq_lk1 (tq_lk1 (tq_lk1 (tq_lk1 (tq_ld1 (tq_ld1 (tq_ld1 tq_l0))))))))))) (ac_X12_tellFrom_287 hB32 hB65 h)
    · replace h := h.2 hc
      refine tq_s_aload_n (kk := 0) (by decide +kernel) rfl ?_
      refine fg_12_53_51 rfl (by decide +kernel) ?_
      refine tq_k_bi (n := 9) (v := (9 : Int32)) (by decide +kernel) kb_9 ?_
      refine tq_s_iload (i := 9) (by decide +kernel) rfl ?_
      refine tq_s_imul (by decide +kernel) ?_
      refine tq_s_iload (i := 8) (by decide +kernel) rfl ?_
      refine tq_s_iadd (by decide +kernel) ?_
      refine tq_s_aload_n (kk := 0) (by decide +kernel) rfl ?_
      refine fg_12_53_51 rfl (by decide +kernel) ?_
      refine tq_k_bi (n := 9) (v := (9 : Int32)) (by decide +kernel) kb_9 ?_
      refine tq_s_iload (i := 6) (by decide +kernel) rfl ?_
      refine tq_s_imul (by decide +kernel) ?_
      refine tq_s_iload (i := 5) (by decide +kernel) rfl ?_
      refine tq_s_iadd (by decide +kernel) ?_
      refine tq_s_iald (by decide +kernel) sh_63 h.1 ?_
      replace h := h.2
      refine tq_s_iload (i := 10) (by decide +kernel) rfl ?_
      refine tq_s_iadd (by decide +kernel) ?_
      refine tq_g_iast (by decide +kernel) sh_63 h.1 (fun z101 ez101 => ?_)
      replace h := h.2 z101 ez101
      refine tq_s_aload_n (kk := 0) (by decide +kernel) rfl ?_
      refine fg_12_59_51 rfl (by decide +kernel) ?_
      refine tq_s_iload_n (kk := 3) (by decide +kernel) rfl ?_
      refine tq_k_bi (n := 9) (v := (9 : Int32)) (by decide +kernel) kb_9 ?_
      refine tq_s_iload (i := 9) (by decide +kernel) rfl ?_
      refine tq_s_imul (by decide +kernel) ?_
      refine tq_s_iload (i := 8) (by decide +kernel) rfl ?_
      refine tq_s_iadd (by decide +kernel) ?_
      refine tq_g_iast (by decide +kernel) sh_65 h.1 (fun z102 ez102 => ?_)
      replace h := h.2 z102 ez102
      refine tq_g_iinc (i := 3) (fun v103 => [.ref 51, .null, .null, .int v103, .int a4, .int a5, .int a6, .int a7, .int a8, .int a9, .int s0]) (by decide +kernel) rfl (1 : Int32) kc_1 (fun _ => rfl) (fun v103 ev103 => ?_)
      replace h := h v103 ev103
      exact tq_to (tq_lk1 (tq_lk1 (tq_lk1 (tq_lk1 (tq_lk1 (tq_lk1 (tq_lk1 (tq_lk1 (tq_ld1 (tq_ld1 (tq_ld1 tq_l0))))))))))) (ac_X12_tellFrom_287 hB32 hB65 h)
def wc_X12_tellFrom_119 (B32 : Int32 → Int32 → tq_S → Prop) (B65 : Int32 → Int32 → tq_S → Prop) (Q : tq_O → tq_S → Prop) (a3 : Int32) (a4 : Int32) (a5 : Int32) (a6 : Int32) (a7 : Int32) (a8 : Int32) (s0 : Int32) (s1 : Int32) (z : tq_S) : Prop := ∀ v101 : Int32, v101 = (s1 + s0) → ((¬ a7 = 0 → ((¬ a7 = (1 : Int32) → ((¬ a7 = (2 : Int32) → wm_X12_along (a5 - (1 : Int32)) (a6 - (1 : Int32)) a5 (a6 - (1 : Int32)) z (tq_wi fun r103 z102 => wc_X12_tellFrom_212 B32 B65 Q a3 a4 a5 a6 a7 a8 v101 r103 z102)) ∧ (a7 = (2 : Int32) → wm_X12_along a5 a6 (a5 - (1 : Int32)) a6 z (tq_wi fun r105 z104 => wc_X12_tellFrom_212 B32 B65 Q a3 a4 a5 a6 a7 a8 v101 r105 z104)))) ∧ (a7 = (1 : Int32) → wm_X12_along (a5 - (1 : Int32)) a6 (a5 - (1 : Int32)) (a6 - (1 : Int32)) z (tq_wi fun r107 z106 => wc_X12_tellFrom_212 B32 B65 Q a3 a4 a5 a6 a7 a8 v101 r107 z106)))) ∧ (a7 = 0 → wm_X12_along a5 (a6 - (1 : Int32)) a5 a6 z (tq_wi fun r109 z108 => wc_X12_tellFrom_212 B32 B65 Q a3 a4 a5 a6 a7 a8 v101 r109 z108)))
theorem ac_X12_tellFrom_119 {K : Nat × (Nat → Int32)} {x : Nat} {Q : tq_O → tq_S → Prop} {B32 : Int32 → Int32 → tq_S → Prop} {B65 : Int32 → Int32 → tq_S → Prop} {a3 : Int32} {a4 : Int32} {a5 : Int32} {a6 : Int32} {a7 : Int32} {a8 : Int32} {s0 : Int32} {s1 : Int32} {z : tq_S} (hB32 : ∀ (b3 : Int32) (b4 : Int32) (z : tq_S), B32 b3 b4 z → tq_T K 3 x mm_X12_tellFrom 32 [.ref 51, .null, .null, .int b3, .int b4, .null, .null, .null, .null, .null, .null] [] z Q) (hB65 : ∀ (b3 : Int32) (b7 : Int32) (z : tq_S), B65 b3 b7 z → tq_T K 3 x mm_X12_tellFrom 65 [.ref 51, .null, .null, .int b3, .int a4, .int a5, .int a6, .int b7, .null, .null, .null] [] z Q) (h : wc_X12_tellFrom_119 B32 B65 Q a3 a4 a5 a6 a7 a8 s0 s1 z) : tq_T K 3 x mm_X12_tellFrom 119 [.ref 51, .null, .null, .int a3, .int a4, .int a5, .int a6, .int a7, .int a8, .null, .null] [.int s0, .int s1] z Q := by
  unfold wc_X12_tellFrom_119 at h
  refine tq_s_iadd (by decide +kernel) ?_
  refine tq_g_istore (i := 9) (fun v101 => [.ref 51, .null, .null, .int a3, .int a4, .int a5, .int a6, .int a7, .int a8, .int v101, .null]) (by decide +kernel) (by decide) (fun _ => rfl) (fun v101 ev101 => ?_)
  replace h := h v101 ev101
  refine tq_s_iload (i := 7) (by decide +kernel) rfl ?_
  refine tq_if_ne (off := 20) (tgt := 144) (by decide +kernel) (by decide +kernel) (fun hc => ?_) (fun hc => ?_)
  · replace h := h.1 hc
    refine tq_s_iload (i := 7) (by decide +kernel) rfl ?_
    refine tq_k_ic (n := 1) (v := (1 : Int32)) (by decide +kernel) kc_1 ?_
    refine tq_icmp_ne (off := 24) (tgt := 171) (by decide +kernel) (by decide +kernel) (fun hc => ?_) (fun hc => ?_)
    · replace h := h.1 hc
      refine tq_s_iload (i := 7) (by decide +kernel) rfl ?_
      refine tq_k_ic (n := 2) (v := (2 : Int32)) (by decide +kernel) kc_2 ?_
      refine tq_icmp_ne (off := 20) (tgt := 194) (by decide +kernel) (by decide +kernel) (fun hc => ?_) (fun hc => ?_)
      · replace h := h.1 hc
        refine tq_s_aload_n (kk := 0) (by decide +kernel) rfl ?_
        refine tq_s_iload (i := 5) (by decide +kernel) rfl ?_
        refine tq_k_ic (n := 1) (v := (1 : Int32)) (by decide +kernel) kc_1 ?_
        refine tq_s_isub (by decide +kernel) ?_
        refine tq_s_iload (i := 6) (by decide +kernel) rfl ?_
        refine tq_k_ic (n := 1) (v := (1 : Int32)) (by decide +kernel) kc_1 ?_
        refine tq_s_isub (by decide +kernel) ?_
        refine tq_s_iload (i := 5) (by decide +kernel) rfl ?_
        refine tq_s_iload (i := 6) (by decide +kernel) rfl ?_
        refine tq_k_ic (n := 1) (v := (1 : Int32)) (by decide +kernel) kc_1 ?_
        refine tq_s_isub (by decide +kernel) ?_
        refine tq_callV (as := [.int (a5 - (1 : Int32)), .int (a6 - (1 : Int32)), .int a5, .int (a6 - (1 : Int32))]) (st := []) (d1 := 2) (x1 := 0) (x2 := x) (by decide +kernel) ln_12_280 mf_X12_along rfl sh_51 rfl (by decide) np_X12_along rfl (Nat.le_of_ble_eq_true rfl) (by decide) (Nat.zero_add _).symm (tq_M_mono (am_X12_along h) ?_)
        refine tq_wi_e (fun r103 z102 h => ?_)
        exact ac_X12_tellFrom_212 hB32 hB65 h
      · replace h := h.2 hc
        refine tq_s_aload_n (kk := 0) (by decide +kernel) rfl ?_
        refine tq_s_iload (i := 5) (by decide +kernel) rfl ?_
        refine tq_s_iload (i := 6) (by decide +kernel) rfl ?_
        refine tq_s_iload (i := 5) (by decide +kernel) rfl ?_
        refine tq_k_ic (n := 1) (v := (1 : Int32)) (by decide +kernel) kc_1 ?_
        refine tq_s_isub (by decide +kernel) ?_
        refine tq_s_iload (i := 6) (by decide +kernel) rfl ?_
        refine tq_callV (as := [.int a5, .int a6, .int (a5 - (1 : Int32)), .int a6]) (st := []) (d1 := 2) (x1 := 0) (x2 := x) (by decide +kernel) ln_12_280 mf_X12_along rfl sh_51 rfl (by decide) np_X12_along rfl (Nat.le_of_ble_eq_true rfl) (by decide) (Nat.zero_add _).symm (tq_M_mono (am_X12_along h) ?_)
        refine tq_wi_e (fun r105 z104 h => ?_)
        refine tq_s_goto (off := 21) (tgt := 212) (by decide +kernel) (by decide +kernel) ?_
        exact ac_X12_tellFrom_212 hB32 hB65 h
    · replace h := h.2 hc
      refine tq_s_aload_n (kk := 0) (by decide +kernel) rfl ?_
      refine tq_s_iload (i := 5) (by decide +kernel) rfl ?_
      refine tq_k_ic (n := 1) (v := (1 : Int32)) (by decide +kernel) kc_1 ?_
      refine tq_s_isub (by decide +kernel) ?_
      refine tq_s_iload (i := 6) (by decide +kernel) rfl ?_
      refine tq_s_iload (i := 5) (by decide +kernel) rfl ?_
      refine tq_k_ic (n := 1) (v := (1 : Int32)) (by decide +kernel) kc_1 ?_
      refine tq_s_isub (by decide +kernel) ?_
      refine tq_s_iload (i := 6) (by decide +kernel) rfl ?_
      refine tq_k_ic (n := 1) (v := (1 : Int32)) (by decide +kernel) kc_1 ?_
      refine tq_s_isub (by decide +kernel) ?_
      refine tq_callV (as := [.int (a5 - (1 : Int32)), .int a6, .int (a5 - (1 : Int32)), .int (a6 - (1 : Int32))]) (st := []) (d1 := 2) (x1 := 0) (x2 := x) (by decide +kernel) ln_12_280 mf_X12_along rfl sh_51 rfl (by decide) np_X12_along rfl (Nat.le_of_ble_eq_true rfl) (by decide) (Nat.zero_add _).symm (tq_M_mono (am_X12_along h) ?_)
      refine tq_wi_e (fun r107 z106 h => ?_)
      refine tq_s_goto (off := 44) (tgt := 212) (by decide +kernel) (by decide +kernel) ?_
      exact ac_X12_tellFrom_212 hB32 hB65 h
  · replace h := h.2 hc
    refine tq_s_aload_n (kk := 0) (by decide +kernel) rfl ?_
    refine tq_s_iload (i := 5) (by decide +kernel) rfl ?_
    refine tq_s_iload (i := 6) (by decide +kernel) rfl ?_
    refine tq_k_ic (n := 1) (v := (1 : Int32)) (by decide +kernel) kc_1 ?_
    refine tq_s_isub (by decide +kernel) ?_
    refine tq_s_iload (i := 5) (by decide +kernel) rfl ?_
    refine tq_s_iload (i := 6) (by decide +kernel) rfl ?_
    refine tq_callV (as := [.int a5, .int (a6 - (1 : Int32)), .int a5, .int a6]) (st := []) (d1 := 2) (x1 := 0) (x2 := x) (by decide +kernel) ln_12_280 mf_X12_along rfl sh_51 rfl (by decide) np_X12_along rfl (Nat.le_of_ble_eq_true rfl) (by decide) (Nat.zero_add _).symm (tq_M_mono (am_X12_along h) ?_)
    refine tq_wi_e (fun r109 z108 h => ?_)
    refine tq_s_goto (off := 71) (tgt := 212) (by decide +kernel) (by decide +kernel) ?_
    exact ac_X12_tellFrom_212 hB32 hB65 h
def wc_X12_tellFrom_93 (B32 : Int32 → Int32 → tq_S → Prop) (B65 : Int32 → Int32 → tq_S → Prop) (Q : tq_O → tq_S → Prop) (a3 : Int32) (a4 : Int32) (a5 : Int32) (a6 : Int32) (a7 : Int32) (s0 : Int32) (s1 : Int32) (z : tq_S) : Prop := ∀ v101 : Int32, v101 = (s1 + s0) → ((¬ a7 = (2 : Int32) → ((¬ a7 = (3 : Int32) → wc_X12_tellFrom_119 B32 B65 Q a3 a4 a5 a6 a7 v101 (0 : Int32) a6 z) ∧ (a7 = (3 : Int32) → wc_X12_tellFrom_119 B32 B65 Q a3 a4 a5 a6 a7 v101 (-1 : Int32) a6 z))) ∧ (a7 = (2 : Int32) → wc_X12_tellFrom_119 B32 B65 Q a3 a4 a5 a6 a7 v101 (1 : Int32) a6 z))
theorem ac_X12_tellFrom_93 {K : Nat × (Nat → Int32)} {x : Nat} {Q : tq_O → tq_S → Prop} {B32 : Int32 → Int32 → tq_S → Prop} {B65 : Int32 → Int32 → tq_S → Prop} {a3 : Int32} {a4 : Int32} {a5 : Int32} {a6 : Int32} {a7 : Int32} {s0 : Int32} {s1 : Int32} {z : tq_S} (hB32 : ∀ (b3 : Int32) (b4 : Int32) (z : tq_S), B32 b3 b4 z → tq_T K 3 x mm_X12_tellFrom 32 [.ref 51, .null, .null, .int b3, .int b4, .null, .null, .null, .null, .null, .null] [] z Q) (hB65 : ∀ (b3 : Int32) (b7 : Int32) (z : tq_S), B65 b3 b7 z → tq_T K 3 x mm_X12_tellFrom 65 [.ref 51, .null, .null, .int b3, .int a4, .int a5, .int a6, .int b7, .null, .null, .null] [] z Q) (h : wc_X12_tellFrom_93 B32 B65 Q a3 a4 a5 a6 a7 s0 s1 z) : tq_T K 3 x mm_X12_tellFrom 93 [.ref 51, .null, .null, .int a3, .int a4, .int a5, .int a6, .int a7, .null, .null, .null] [.int s0, .int s1] z Q := by
  unfold wc_X12_tellFrom_93 at h
  refine tq_s_iadd (by decide +kernel) ?_
  refine tq_g_istore (i := 8) (fun v101 => [.ref 51, .null, .null, .int a3, .int a4, .int a5, .int a6, .int a7, .int v101, .null, .null]) (by decide +kernel) (by decide) (fun _ => rfl) (fun v101 ev101 => ?_)
  replace h := h v101 ev101
  refine tq_s_iload (i := 6) (by decide +kernel) rfl ?_
  refine tq_s_iload (i := 7) (by decide +kernel) rfl ?_
  refine tq_k_ic (n := 2) (v := (2 : Int32)) (by decide +kernel) kc_2 ?_
  refine tq_icmp_ne (off := 7) (tgt := 108) (by decide +kernel) (by decide +kernel) (fun hc => ?_) (fun hc => ?_)
  · replace h := h.1 hc
    refine tq_s_iload (i := 7) (by decide +kernel) rfl ?_
    refine tq_k_ic (n := 3) (v := (3 : Int32)) (by decide +kernel) kc_3 ?_
    refine tq_icmp_ne (off := 7) (tgt := 118) (by decide +kernel) (by decide +kernel) (fun hc => ?_) (fun hc => ?_)
    · replace h := h.1 hc
      refine tq_k_ic (n := 0) (v := (0 : Int32)) (by decide +kernel) kc_0 ?_
      exact ac_X12_tellFrom_119 hB32 hB65 h
    · replace h := h.2 hc
      refine tq_k_ic (n := -1) (v := (-1 : Int32)) (by decide +kernel) kc_m1 ?_
      refine tq_s_goto (off := 4) (tgt := 119) (by decide +kernel) (by decide +kernel) ?_
      exact ac_X12_tellFrom_119 hB32 hB65 h
  · replace h := h.2 hc
    refine tq_k_ic (n := 1) (v := (1 : Int32)) (by decide +kernel) kc_1 ?_
    refine tq_s_goto (off := 14) (tgt := 119) (by decide +kernel) (by decide +kernel) ?_
    exact ac_X12_tellFrom_119 hB32 hB65 h
def wc_X12_tellFrom_293 (B32 : Int32 → Int32 → tq_S → Prop) (Q : tq_O → tq_S → Prop) (a3 : Int32) (a4 : Int32) (z : tq_S) : Prop := ∀ v101 : Int32, v101 = a4 + (1 : Int32) → B32 a3 v101 z
theorem ac_X12_tellFrom_293 {K : Nat × (Nat → Int32)} {x : Nat} {Q : tq_O → tq_S → Prop} {B32 : Int32 → Int32 → tq_S → Prop} {a3 : Int32} {a4 : Int32} {z : tq_S} (hB32 : ∀ (b3 : Int32) (b4 : Int32) (z : tq_S), B32 b3 b4 z → tq_T K 3 x mm_X12_tellFrom 32 [.ref 51, .null, .null, .int b3, .int b4, .null, .null, .null, .null, .null, .null] [] z Q) (h : wc_X12_tellFrom_293 B32 Q a3 a4 z) : tq_T K 3 x mm_X12_tellFrom 293 [.ref 51, .null, .null, .int a3, .int a4, .null, .null, .null, .null, .null, .null] [] z Q := by
  unfold wc_X12_tellFrom_293 at h
  refine tq_g_iinc (i := 4) (fun v101 => [.ref 51, .null, .null, .int a3, .int v101, .null, .null, .null, .null, .null, .null]) (by decide +kernel) rfl (1 : Int32) kc_1 (fun _ => rfl) (fun v101 ev101 => ?_)
  replace h := h v101 ev101
  refine tq_s_goto (off := -264) (tgt := 32) (by decide +kernel) (by decide +kernel) ?_
  exact hB32 _ _ _ h
def wb_X12_tellFrom_65 (B32 : Int32 → Int32 → tq_S → Prop) (B65 : Int32 → Int32 → tq_S → Prop) (Q : tq_O → tq_S → Prop) (a3 : Int32) (a4 : Int32) (a5 : Int32) (a6 : Int32) (a7 : Int32) (z : tq_S) : Prop := (((4 : Int32) ≤ a7 → wc_X12_tellFrom_293 B32 Q a3 a4 z) ∧ (¬ (4 : Int32) ≤ a7 → ((¬ a7 = 0 → ((¬ a7 = (1 : Int32) → wc_X12_tellFrom_93 B32 B65 Q a3 a4 a5 a6 a7 (0 : Int32) a5 z) ∧ (a7 = (1 : Int32) → wc_X12_tellFrom_93 B32 B65 Q a3 a4 a5 a6 a7 (-1 : Int32) a5 z))) ∧ (a7 = 0 → wc_X12_tellFrom_93 B32 B65 Q a3 a4 a5 a6 a7 (1 : Int32) a5 z))))
def wc_X12_tellFrom_65 (B32 : Int32 → Int32 → tq_S → Prop) (Q : tq_O → tq_S → Prop) (a3 : Int32) (a4 : Int32) (a5 : Int32) (a6 : Int32) (a7 : Int32) (z : tq_S) : Prop := tq_lp (σ := Int32 × Int32 × tq_S) (fun B s => wb_X12_tellFrom_65 B32 (fun b3 b7 z => B (b3, b7, z)) Q s.1 a4 a5 a6 s.2.1 s.2.2) (a3, a7, z)
theorem ab_X12_tellFrom_65 {K : Nat × (Nat → Int32)} {x : Nat} {Q : tq_O → tq_S → Prop} {B32 : Int32 → Int32 → tq_S → Prop} {B65 : Int32 → Int32 → tq_S → Prop} {a3 : Int32} {a4 : Int32} {a5 : Int32} {a6 : Int32} {a7 : Int32} {z : tq_S} (hB32 : ∀ (b3 : Int32) (b4 : Int32) (z : tq_S), B32 b3 b4 z → tq_T K 3 x mm_X12_tellFrom 32 [.ref 51, .null, .null, .int b3, .int b4, .null, .null, .null, .null, .null, .null] [] z Q) (hB65 : ∀ (b3 : Int32) (b7 : Int32) (z : tq_S), B65 b3 b7 z → tq_T K 3 x mm_X12_tellFrom 65 [.ref 51, .null, .null, .int b3, .int a4, .int a5, .int a6, .int b7, .null, .null, .null] [] z Q) (h : wb_X12_tellFrom_65 B32 B65 Q a3 a4 a5 a6 a7 z) : tq_T K 3 x mm_X12_tellFrom 65 [.ref 51, .null, .null, .int a3, .int a4, .int a5, .int a6, .int a7, .null, .null, .null] [] z Q := by
  unfold wb_X12_tellFrom_65 at h
  refine tq_s_iload (i := 7) (by decide +kernel) rfl ?_
  refine tq_k_ic (n := 4) (v := (4 : Int32)) (by decide +kernel) kc_4 ?_
  refine tq_icmp_ge (off := 225) (tgt := 293) (by decide +kernel) (by decide +kernel) (fun hc => ?_) (fun hc => ?_)
  · replace h := h.1 hc
    exact tq_to (tq_lk1 (tq_lk1 (tq_lk1 (tq_lk1 (tq_lk1 (tq_ld1 (tq_ld1 (tq_ld1 (tq_lk1 (tq_lk1 (tq_lk1 tq_l0))))))))))) (ac_X12_tellFrom_293 hB32 h)
  · replace h := h.2 hc
    refine tq_s_iload (i := 5) (by decide +kernel) rfl ?_
    refine tq_s_iload (i := 7) (by decide +kernel) rfl ?_
    refine tq_if_ne (off := 7) (tgt := 82) (by decide +kernel) (by decide +kernel) (fun hc => ?_) (fun hc => ?_)
    · replace h := h.1 hc
      refine tq_s_iload (i := 7) (by decide +kernel) rfl ?_
      refine tq_k_ic (n := 1) (v := (1 : Int32)) (by decide +kernel) kc_1 ?_
      refine tq_icmp_ne (off := 7) (tgt := 92) (by decide +kernel) (by decide +kernel) (fun hc => ?_) (fun hc => ?_)
      · replace h := h.1 hc
        refine tq_k_ic (n := 0) (v := (0 : Int32)) (by decide +kernel) kc_0 ?_
        exact ac_X12_tellFrom_93 hB32 hB65 h
      · replace h := h.2 hc
        refine tq_k_ic (n := -1) (v := (-1 : Int32)) (by decide +kernel) kc_m1 ?_
        refine tq_s_goto (off := 4) (tgt := 93) (by decide +kernel) (by decide +kernel) ?_
        exact ac_X12_tellFrom_93 hB32 hB65 h
    · replace h := h.2 hc
      refine tq_k_ic (n := 1) (v := (1 : Int32)) (by decide +kernel) kc_1 ?_
      refine tq_s_goto (off := 14) (tgt := 93) (by decide +kernel) (by decide +kernel) ?_
      exact ac_X12_tellFrom_93 hB32 hB65 h
theorem ac_X12_tellFrom_65 {K : Nat × (Nat → Int32)} {x : Nat} {Q : tq_O → tq_S → Prop} {B32 : Int32 → Int32 → tq_S → Prop} {a3 : Int32} {a4 : Int32} {a5 : Int32} {a6 : Int32} {a7 : Int32} {z : tq_S} (hB32 : ∀ (b3 : Int32) (b4 : Int32) (z : tq_S), B32 b3 b4 z → tq_T K 3 x mm_X12_tellFrom 32 [.ref 51, .null, .null, .int b3, .int b4, .null, .null, .null, .null, .null, .null] [] z Q) (h : wc_X12_tellFrom_65 B32 Q a3 a4 a5 a6 a7 z) : tq_T K 3 x mm_X12_tellFrom 65 [.ref 51, .null, .null, .int a3, .int a4, .int a5, .int a6, .int a7, .null, .null, .null] [] z Q :=
  tq_lp_T (σ := Int32 × Int32 × tq_S) (s := (a3, a7, z)) (G := fun s => tq_T K 3 x mm_X12_tellFrom 65 [.ref 51, .null, .null, .int s.1, .int a4, .int a5, .int a6, .int s.2.1, .null, .null, .null] [] s.2.2 Q) (fun B hB s h => ab_X12_tellFrom_65 hB32 (fun b3 b7 z h => hB (b3, b7, z) h) h) h
def wb_X12_tellFrom_32 (B32 : Int32 → Int32 → tq_S → Prop) (Q : tq_O → tq_S → Prop) (a3 : Int32) (a4 : Int32) (z : tq_S) : Prop := ((a3 ≤ a4 → Q (.inl none) z) ∧ (¬ a3 ≤ a4 → vp_in a4 81 ∧ ∀ v101 : Int32, v101 = ((tq_ai z 65 (Int32.toNatClampNeg a4)) - (tq_ai z 65 (Int32.toNatClampNeg a4)) / (9 : Int32) * (9 : Int32)) → vp_in a4 81 ∧ ∀ v102 : Int32, v102 = ((tq_ai z 65 (Int32.toNatClampNeg a4)) / (9 : Int32)) → wc_X12_tellFrom_65 B32 Q a3 a4 v101 v102 (0 : Int32) z))
def wc_X12_tellFrom_32 (Q : tq_O → tq_S → Prop) (a3 : Int32) (a4 : Int32) (z : tq_S) : Prop := tq_lp (σ := Int32 × Int32 × tq_S) (fun B s => wb_X12_tellFrom_32 (fun b3 b4 z => B (b3, b4, z)) Q s.1 s.2.1 s.2.2) (a3, a4, z)
theorem ab_X12_tellFrom_32 {K : Nat × (Nat → Int32)} {x : Nat} {Q : tq_O → tq_S → Prop} {B32 : Int32 → Int32 → tq_S → Prop} {a3 : Int32} {a4 : Int32} {z : tq_S} (hB32 : ∀ (b3 : Int32) (b4 : Int32) (z : tq_S), B32 b3 b4 z → tq_T K 3 x mm_X12_tellFrom 32 [.ref 51, .null, .null, .int b3, .int b4, .null, .null, .null, .null, .null, .null] [] z Q) (h : wb_X12_tellFrom_32 B32 Q a3 a4 z) : tq_T K 3 x mm_X12_tellFrom 32 [.ref 51, .null, .null, .int a3, .int a4, .null, .null, .null, .null, .null, .null] [] z Q := by
  unfold wb_X12_tellFrom_32 at h
  refine tq_s_iload (i := 4) (by decide +kernel) rfl ?_
  refine tq_s_iload_n (kk := 3) (by decide +kernel) rfl ?_
  refine tq_icmp_ge (off := 264) (tgt := 299) (by decide +kernel) (by decide +kernel) (fun hc => ?_) (fun hc => ?_)
  · replace h := h.1 hc
    exact tq_ret_v (st := []) (by decide +kernel) rfl h
  · replace h := h.2 hc
    refine tq_s_aload_n (kk := 0) (by decide +kernel) rfl ?_
    refine fg_12_59_51 rfl (by decide +kernel) ?_
    refine tq_s_iload (i := 4) (by decide +kernel) rfl ?_
    refine tq_s_iald (by decide +kernel) sh_65 h.1 ?_
    replace h := h.2
    refine tq_k_bi (n := 9) (v := (9 : Int32)) (by decide +kernel) kb_9 ?_
    refine tq_s_irem (by decide +kernel) (by decide +kernel) ?_
    refine tq_g_istore (i := 5) (fun v101 => [.ref 51, .null, .null, .int a3, .int a4, .int v101, .null, .null, .null, .null, .null]) (by decide +kernel) (by decide) (fun _ => rfl) (fun v101 ev101 => ?_)
    replace h := h v101 ev101
    refine tq_s_aload_n (kk := 0) (by decide +kernel) rfl ?_
    refine fg_12_59_51 rfl (by decide +kernel) ?_
    refine tq_s_iload (i := 4) (by decide +kernel) rfl ?_
    refine tq_s_iald (by decide +kernel) sh_65 h.1 ?_
    replace h := h.2
    refine tq_k_bi (n := 9) (v := (9 : Int32)) (by decide +kernel) kb_9 ?_
    refine tq_s_idiv (by decide +kernel) (by decide +kernel) ?_
    refine tq_g_istore (i := 6) (fun v102 => [.ref 51, .null, .null, .int a3, .int a4, .int v101, .int v102, .null, .null, .null, .null]) (by decide +kernel) (by decide) (fun _ => rfl) (fun v102 ev102 => ?_)
    replace h := h v102 ev102
    refine tq_k_ic (n := 0) (v := (0 : Int32)) (by decide +kernel) kc_0 ?_
    refine tq_s_istore (i := 7) (L9 := [.ref 51, .null, .null, .int a3, .int a4, .int v101, .int v102, .int (0 : Int32), .null, .null, .null]) (by decide +kernel) (by decide) rfl ?_
    exact ac_X12_tellFrom_65 hB32 h
theorem ac_X12_tellFrom_32 {K : Nat × (Nat → Int32)} {x : Nat} {Q : tq_O → tq_S → Prop} {a3 : Int32} {a4 : Int32} {z : tq_S} (h : wc_X12_tellFrom_32 Q a3 a4 z) : tq_T K 3 x mm_X12_tellFrom 32 [.ref 51, .null, .null, .int a3, .int a4, .null, .null, .null, .null, .null, .null] [] z Q :=
  tq_lp_T (σ := Int32 × Int32 × tq_S) (s := (a3, a4, z)) (G := fun s => tq_T K 3 x mm_X12_tellFrom 32 [.ref 51, .null, .null, .int s.1, .int s.2.1, .null, .null, .null, .null, .null, .null] [] s.2.2 Q) (fun B hB s h => ab_X12_tellFrom_32 (fun b3 b4 z h => hB (b3, b4, z) h) h) h
def wm_X12_tellFrom (a1 : Int32) (a2 : Int32) (z : tq_S) (Q : tq_O → tq_S → Prop) : Prop := vp_in (((9 : Int32) * a2) + a1) 81 ∧ ∀ z1 : tq_S, z1 = tq_sai z 63 (upd (tq_ai z 63) (Int32.toNatClampNeg (((9 : Int32) * a2) + a1)) (0 : Int32)) → ∀ z2 : tq_S, z2 = tq_sai z1 65 (upd (tq_ai z1 65) (Int32.toNatClampNeg (0 : Int32)) (((9 : Int32) * a2) + a1)) → ∀ v3 : Int32, v3 = (0 : Int32) + (1 : Int32) → wc_X12_tellFrom_32 Q v3 (0 : Int32) z2
theorem am_X12_tellFrom {K : Nat × (Nat → Int32)} {x : Nat} {z : tq_S} {Q : tq_O → tq_S → Prop} {a1 : Int32} {a2 : Int32} (h : wm_X12_tellFrom a1 a2 z Q) : tq_M K 3 x mm_X12_tellFrom [.ref 51, .int a1, .int a2] z Q := by
  unfold wm_X12_tellFrom at h
  refine tq_enter (L := [.ref 51, .int a1, .int a2, .null, .null, .null, .null, .null, .null, .null, .null]) mf_X12_tellFrom.1 rfl rfl (Nat.le_of_ble_eq_true rfl) ?_
  refine tq_k_ic (n := 0) (v := (0 : Int32)) (by decide +kernel) kc_0 ?_
  refine tq_s_istore_n (kk := 3) (L9 := [.ref 51, .int a1, .int a2, .int (0 : Int32), .null, .null, .null, .null, .null, .null, .null]) (by decide +kernel) (by decide) rfl ?_
  refine tq_s_aload_n (kk := 0) (by decide +kernel) rfl ?_
  refine fg_12_53_51 rfl (by decide +kernel) ?_
  refine tq_k_bi (n := 9) (v := (9 : Int32)) (by decide +kernel) kb_9 ?_
  refine tq_s_iload_n (kk := 2) (by decide +kernel) rfl ?_
  refine tq_s_imul (by decide +kernel) ?_
  refine tq_s_iload_n (kk := 1) (by decide +kernel) rfl ?_
  refine tq_s_iadd (by decide +kernel) ?_
  refine tq_k_ic (n := 0) (v := (0 : Int32)) (by decide +kernel) kc_0 ?_
  refine tq_g_iast (by decide +kernel) sh_63 h.1 (fun z1 ez1 => ?_)
  replace h := h.2 z1 ez1
  refine tq_s_aload_n (kk := 0) (by decide +kernel) rfl ?_
  refine fg_12_59_51 rfl (by decide +kernel) ?_
  refine tq_s_iload_n (kk := 3) (by decide +kernel) rfl ?_
  refine tq_k_bi (n := 9) (v := (9 : Int32)) (by decide +kernel) kb_9 ?_
  refine tq_s_iload_n (kk := 2) (by decide +kernel) rfl ?_
  refine tq_s_imul (by decide +kernel) ?_
  refine tq_s_iload_n (kk := 1) (by decide +kernel) rfl ?_
  refine tq_s_iadd (by decide +kernel) ?_
  refine tq_g_iast (by decide +kernel) sh_65 vi_0_81 (fun z2 ez2 => ?_)
  replace h := h z2 ez2
  refine tq_g_iinc (i := 3) (fun v3 => [.ref 51, .int a1, .int a2, .int v3, .null, .null, .null, .null, .null, .null, .null]) (by decide +kernel) rfl (1 : Int32) kc_1 (fun _ => rfl) (fun v3 ev3 => ?_)
  replace h := h v3 ev3
  refine tq_k_ic (n := 0) (v := (0 : Int32)) (by decide +kernel) kc_0 ?_
  refine tq_s_istore (i := 4) (L9 := [.ref 51, .int a1, .int a2, .int v3, .int (0 : Int32), .null, .null, .null, .null, .null, .null]) (by decide +kernel) (by decide) rfl ?_
  exact tq_to (tq_lk1 (tq_ld1 (tq_ld1 (tq_lk1 (tq_lk1 (tq_lk1 (tq_lk1 (tq_lk1 (tq_lk1 (tq_lk1 (tq_lk1 tq_l0))))))))))) (ac_X12_tellFrom_32 h)
def wc_X12_tellHeights_75 (B25 : Int32 → tq_S → Prop) (B35 : Int32 → tq_S → Prop) (Q : tq_O → tq_S → Prop) (a1 : Int32) (a2 : Int32) (z : tq_S) : Prop := ∀ v101 : Int32, v101 = a2 + (1 : Int32) → B35 v101 z
theorem ac_X12_tellHeights_75 {K : Nat × (Nat → Int32)} {x : Nat} {Q : tq_O → tq_S → Prop} {B25 : Int32 → tq_S → Prop} {B35 : Int32 → tq_S → Prop} {a1 : Int32} {a2 : Int32} {z : tq_S} (hB25 : ∀ (b1 : Int32) (z : tq_S), B25 b1 z → tq_T K 4 x mm_X12_tellHeights 25 [.ref 51, .int b1, .null] [] z Q) (hB35 : ∀ (b2 : Int32) (z : tq_S), B35 b2 z → tq_T K 4 x mm_X12_tellHeights 35 [.ref 51, .int a1, .int b2] [] z Q) (h : wc_X12_tellHeights_75 B25 B35 Q a1 a2 z) : tq_T K 4 x mm_X12_tellHeights 75 [.ref 51, .int a1, .int a2] [] z Q := by
  unfold wc_X12_tellHeights_75 at h
  refine tq_g_iinc (i := 2) (fun v101 => [.ref 51, .int a1, .int v101]) (by decide +kernel) rfl (1 : Int32) kc_1 (fun _ => rfl) (fun v101 ev101 => ?_)
  replace h := h v101 ev101
  refine tq_s_goto (off := -43) (tgt := 35) (by decide +kernel) (by decide +kernel) ?_
  exact hB35 _ _ h
def wc_X12_tellHeights_81 (B25 : Int32 → tq_S → Prop) (Q : tq_O → tq_S → Prop) (a1 : Int32) (z : tq_S) : Prop := ∀ v101 : Int32, v101 = a1 + (1 : Int32) → B25 v101 z
theorem ac_X12_tellHeights_81 {K : Nat × (Nat → Int32)} {x : Nat} {Q : tq_O → tq_S → Prop} {B25 : Int32 → tq_S → Prop} {a1 : Int32} {z : tq_S} (hB25 : ∀ (b1 : Int32) (z : tq_S), B25 b1 z → tq_T K 4 x mm_X12_tellHeights 25 [.ref 51, .int b1, .null] [] z Q) (h : wc_X12_tellHeights_81 B25 Q a1 z) : tq_T K 4 x mm_X12_tellHeights 81 [.ref 51, .int a1, .null] [] z Q := by
  unfold wc_X12_tellHeights_81 at h
  refine tq_g_iinc (i := 1) (fun v101 => [.ref 51, .int v101, .null]) (by decide +kernel) rfl (1 : Int32) kc_1 (fun _ => rfl) (fun v101 ev101 => ?_)
  replace h := h v101 ev101
  refine tq_s_goto (off := -59) (tgt := 25) (by decide +kernel) (by decide +kernel) ?_
  exact hB25 _ _ h
def wb_X12_tellHeights_35 (B25 : Int32 → tq_S → Prop) (B35 : Int32 → tq_S → Prop) (Q : tq_O → tq_S → Prop) (a1 : Int32) (a2 : Int32) (z : tq_S) : Prop := (((tq_fi z 3265) < a2 → wc_X12_tellHeights_81 B25 Q a1 z) ∧ (¬ (tq_fi z 3265) < a2 → wm_X12_isCorner a2 a1 z (tq_wi fun r102 z101 => ((r102 = 0 → wc_X12_tellHeights_75 B25 B35 Q a1 a2 z101) ∧ (¬ r102 = 0 → vp_in (((9 : Int32) * a1) + a2) 81 ∧ ((¬ (tq_ai z101 63 (Int32.toNatClampNeg (((9 : Int32) * a1) + a2))) = (1000000 : Int32) → wc_X12_tellHeights_75 B25 B35 Q a1 a2 z101) ∧ ((tq_ai z101 63 (Int32.toNatClampNeg (((9 : Int32) * a1) + a2))) = (1000000 : Int32) → wm_X12_tellFrom a2 a1 z101 (tq_wv fun z103 => wc_X12_tellHeights_75 B25 B35 Q a1 a2 z103))))))))
def wc_X12_tellHeights_35 (B25 : Int32 → tq_S → Prop) (Q : tq_O → tq_S → Prop) (a1 : Int32) (a2 : Int32) (z : tq_S) : Prop := tq_lp (σ := Int32 × tq_S) (fun B s => wb_X12_tellHeights_35 B25 (fun b2 z => B (b2, z)) Q a1 s.1 s.2) (a2, z)
theorem ab_X12_tellHeights_35 {K : Nat × (Nat → Int32)} {x : Nat} {Q : tq_O → tq_S → Prop} {B25 : Int32 → tq_S → Prop} {B35 : Int32 → tq_S → Prop} {a1 : Int32} {a2 : Int32} {z : tq_S} (hB25 : ∀ (b1 : Int32) (z : tq_S), B25 b1 z → tq_T K 4 x mm_X12_tellHeights 25 [.ref 51, .int b1, .null] [] z Q) (hB35 : ∀ (b2 : Int32) (z : tq_S), B35 b2 z → tq_T K 4 x mm_X12_tellHeights 35 [.ref 51, .int a1, .int b2] [] z Q) (h : wb_X12_tellHeights_35 B25 B35 Q a1 a2 z) : tq_T K 4 x mm_X12_tellHeights 35 [.ref 51, .int a1, .int a2] [] z Q := by
  unfold wb_X12_tellHeights_35 at h
  refine tq_s_iload_n (kk := 2) (by decide +kernel) rfl ?_
  refine tq_s_aload_n (kk := 0) (by decide +kernel) rfl ?_
  refine fg_12_7_51 rfl (by decide +kernel) ?_
  refine tq_icmp_gt (off := 41) (tgt := 81) (by decide +kernel) (by decide +kernel) (fun hc => ?_) (fun hc => ?_)
  · replace h := h.1 hc
    exact tq_to (tq_lk1 (tq_lk1 (tq_ld1 tq_l0))) (ac_X12_tellHeights_81 hB25 h)
  · replace h := h.2 hc
    refine tq_s_aload_n (kk := 0) (by decide +kernel) rfl ?_
    refine tq_s_iload_n (kk := 2) (by decide +kernel) rfl ?_
    refine tq_s_iload_n (kk := 1) (by decide +kernel) rfl ?_
    refine tq_callV (as := [.int a2, .int a1]) (st := []) (d1 := 2) (x1 := 0) (x2 := x) (by decide +kernel) ln_12_273 mf_X12_isCorner rfl sh_51 rfl (by decide) np_X12_isCorner rfl (Nat.le_of_ble_eq_true rfl) (by decide) (Nat.zero_add _).symm (tq_M_mono (am_X12_isCorner h) ?_)
    refine tq_wi_e (fun r102 z101 h => ?_)
    refine tq_if_eq (off := 26) (tgt := 75) (by decide +kernel) (by decide +kernel) (fun hc => ?_) (fun hc => ?_)
    · replace h := h.1 hc
      exact ac_X12_tellHeights_75 hB25 hB35 h
    · replace h := h.2 hc
      refine tq_s_aload_n (kk := 0) (by decide +kernel) rfl ?_
      refine fg_12_53_51 rfl (by decide +kernel) ?_
      refine tq_k_bi (n := 9) (v := (9 : Int32)) (by decide +kernel) kb_9 ?_
      refine tq_s_iload_n (kk := 1) (by decide +kernel) rfl ?_
      refine tq_s_imul (by decide +kernel) ?_
      refine tq_s_iload_n (kk := 2) (by decide +kernel) rfl ?_
      refine tq_s_iadd (by decide +kernel) ?_
      refine tq_s_iald (by decide +kernel) sh_63 h.1 ?_
      replace h := h.2
      refine tq_s_ldcw (i := 272) (v := (1000000 : Int32)) (by decide +kernel) (by decide +kernel) ?_
      refine tq_icmp_ne (off := 9) (tgt := 75) (by decide +kernel) (by decide +kernel) (fun hc => ?_) (fun hc => ?_)
      · replace h := h.1 hc
        exact ac_X12_tellHeights_75 hB25 hB35 h
      · replace h := h.2 hc
        refine tq_s_aload_n (kk := 0) (by decide +kernel) rfl ?_
        refine tq_s_iload_n (kk := 2) (by decide +kernel) rfl ?_
        refine tq_s_iload_n (kk := 1) (by decide +kernel) rfl ?_
        refine tq_callV (as := [.int a2, .int a1]) (st := []) (d1 := 3) (x1 := 0) (x2 := x) (by decide +kernel) ln_12_276 mf_X12_tellFrom rfl sh_51 rfl (by decide) np_X12_tellFrom rfl (Nat.le_of_ble_eq_true rfl) (by decide) (Nat.zero_add _).symm (tq_M_mono (am_X12_tellFrom h) ?_)
        refine tq_wv_e (fun z103 h => ?_)
        exact ac_X12_tellHeights_75 hB25 hB35 h
theorem ac_X12_tellHeights_35 {K : Nat × (Nat → Int32)} {x : Nat} {Q : tq_O → tq_S → Prop} {B25 : Int32 → tq_S → Prop} {a1 : Int32} {a2 : Int32} {z : tq_S} (hB25 : ∀ (b1 : Int32) (z : tq_S), B25 b1 z → tq_T K 4 x mm_X12_tellHeights 25 [.ref 51, .int b1, .null] [] z Q) (h : wc_X12_tellHeights_35 B25 Q a1 a2 z) : tq_T K 4 x mm_X12_tellHeights 35 [.ref 51, .int a1, .int a2] [] z Q :=
  tq_lp_T (σ := Int32 × tq_S) (s := (a2, z)) (G := fun s => tq_T K 4 x mm_X12_tellHeights 35 [.ref 51, .int a1, .int s.1] [] s.2 Q) (fun B hB s h => ab_X12_tellHeights_35 hB25 (fun b2 z h => hB (b2, z) h) h) h
def wb_X12_tellHeights_25 (B25 : Int32 → tq_S → Prop) (Q : tq_O → tq_S → Prop) (a1 : Int32) (z : tq_S) : Prop := (((tq_fi z 3266) < a1 → Q (.inl none) z) ∧ (¬ (tq_fi z 3266) < a1 → wc_X12_tellHeights_35 B25 Q a1 (0 : Int32) z))
def wc_X12_tellHeights_25 (Q : tq_O → tq_S → Prop) (a1 : Int32) (z : tq_S) : Prop := tq_lp (σ := Int32 × tq_S) (fun B s => wb_X12_tellHeights_25 (fun b1 z => B (b1, z)) Q s.1 s.2) (a1, z)
theorem ab_X12_tellHeights_25 {K : Nat × (Nat → Int32)} {x : Nat} {Q : tq_O → tq_S → Prop} {B25 : Int32 → tq_S → Prop} {a1 : Int32} {z : tq_S} (hB25 : ∀ (b1 : Int32) (z : tq_S), B25 b1 z → tq_T K 4 x mm_X12_tellHeights 25 [.ref 51, .int b1, .null] [] z Q) (h : wb_X12_tellHeights_25 B25 Q a1 z) : tq_T K 4 x mm_X12_tellHeights 25 [.ref 51, .int a1, .null] [] z Q := by
  unfold wb_X12_tellHeights_25 at h
  refine tq_s_iload_n (kk := 1) (by decide +kernel) rfl ?_
  refine tq_s_aload_n (kk := 0) (by decide +kernel) rfl ?_
  refine fg_12_13_51 rfl (by decide +kernel) ?_
  refine tq_icmp_gt (off := 57) (tgt := 87) (by decide +kernel) (by decide +kernel) (fun hc => ?_) (fun hc => ?_)
  · replace h := h.1 hc
    exact tq_ret_v (st := []) (by decide +kernel) rfl h
  · replace h := h.2 hc
    refine tq_k_ic (n := 0) (v := (0 : Int32)) (by decide +kernel) kc_0 ?_
    refine tq_s_istore_n (kk := 2) (L9 := [.ref 51, .int a1, .int (0 : Int32)]) (by decide +kernel) (by decide) rfl ?_
    exact ac_X12_tellHeights_35 hB25 h
theorem ac_X12_tellHeights_25 {K : Nat × (Nat → Int32)} {x : Nat} {Q : tq_O → tq_S → Prop} {a1 : Int32} {z : tq_S} (h : wc_X12_tellHeights_25 Q a1 z) : tq_T K 4 x mm_X12_tellHeights 25 [.ref 51, .int a1, .null] [] z Q :=
  tq_lp_T (σ := Int32 × tq_S) (s := (a1, z)) (G := fun s => tq_T K 4 x mm_X12_tellHeights 25 [.ref 51, .int s.1, .null] [] s.2 Q) (fun B hB s h => ab_X12_tellHeights_25 (fun b1 z h => hB (b1, z) h) h) h
def wc_X12_tellHeights_23 (Q : tq_O → tq_S → Prop)  (z : tq_S) : Prop := wc_X12_tellHeights_25 Q (0 : Int32) z
theorem ac_X12_tellHeights_23 {K : Nat × (Nat → Int32)} {x : Nat} {Q : tq_O → tq_S → Prop}  {z : tq_S} (h : wc_X12_tellHeights_23 Q z) : tq_T K 4 x mm_X12_tellHeights 23 [.ref 51, .null, .null] [] z Q := by
  unfold wc_X12_tellHeights_23 at h
  refine tq_k_ic (n := 0) (v := (0 : Int32)) (by decide +kernel) kc_0 ?_
  refine tq_s_istore_n (kk := 1) (L9 := [.ref 51, .int (0 : Int32), .null]) (by decide +kernel) (by decide) rfl ?_
  exact ac_X12_tellHeights_25 h
def wb_X12_tellHeights_2 (B2 : Int32 → tq_S → Prop) (Q : tq_O → tq_S → Prop) (a1 : Int32) (z : tq_S) : Prop := (((81 : Int32) ≤ a1 → wc_X12_tellHeights_23 Q z) ∧ (¬ (81 : Int32) ≤ a1 → vp_in a1 81 ∧ ∀ z101 : tq_S, z101 = tq_sai z 63 (upd (tq_ai z 63) (Int32.toNatClampNeg a1) (1000000 : Int32)) → ∀ v102 : Int32, v102 = a1 + (1 : Int32) → B2 v102 z101))
def wc_X12_tellHeights_2 (Q : tq_O → tq_S → Prop) (a1 : Int32) (z : tq_S) : Prop := tq_lp (σ := Int32 × tq_S) (fun B s => wb_X12_tellHeights_2 (fun b1 z => B (b1, z)) Q s.1 s.2) (a1, z)
theorem ab_X12_tellHeights_2 {K : Nat × (Nat → Int32)} {x : Nat} {Q : tq_O → tq_S → Prop} {B2 : Int32 → tq_S → Prop} {a1 : Int32} {z : tq_S} (hB2 : ∀ (b1 : Int32) (z : tq_S), B2 b1 z → tq_T K 4 x mm_X12_tellHeights 2 [.ref 51, .int b1, .null] [] z Q) (h : wb_X12_tellHeights_2 B2 Q a1 z) : tq_T K 4 x mm_X12_tellHeights 2 [.ref 51, .int a1, .null] [] z Q := by
  unfold wb_X12_tellHeights_2 at h
  refine tq_s_iload_n (kk := 1) (by decide +kernel) rfl ?_
  refine tq_k_bi (n := 81) (v := (81 : Int32)) (by decide +kernel) kb_81 ?_
  refine tq_icmp_ge (off := 18) (tgt := 23) (by decide +kernel) (by decide +kernel) (fun hc => ?_) (fun hc => ?_)
  · replace h := h.1 hc
    exact tq_to (tq_lk1 (tq_ld1 (tq_lk1 tq_l0))) (ac_X12_tellHeights_23 h)
  · replace h := h.2 hc
    refine tq_s_aload_n (kk := 0) (by decide +kernel) rfl ?_
    refine fg_12_53_51 rfl (by decide +kernel) ?_
    refine tq_s_iload_n (kk := 1) (by decide +kernel) rfl ?_
    refine tq_s_ldcw (i := 272) (v := (1000000 : Int32)) (by decide +kernel) (by decide +kernel) ?_
    refine tq_g_iast (by decide +kernel) sh_63 h.1 (fun z101 ez101 => ?_)
    replace h := h.2 z101 ez101
    refine tq_g_iinc (i := 1) (fun v102 => [.ref 51, .int v102, .null]) (by decide +kernel) rfl (1 : Int32) kc_1 (fun _ => rfl) (fun v102 ev102 => ?_)
    replace h := h v102 ev102
    refine tq_s_goto (off := -18) (tgt := 2) (by decide +kernel) (by decide +kernel) ?_
    exact hB2 _ _ h
theorem ac_X12_tellHeights_2 {K : Nat × (Nat → Int32)} {x : Nat} {Q : tq_O → tq_S → Prop} {a1 : Int32} {z : tq_S} (h : wc_X12_tellHeights_2 Q a1 z) : tq_T K 4 x mm_X12_tellHeights 2 [.ref 51, .int a1, .null] [] z Q :=
  tq_lp_T (σ := Int32 × tq_S) (s := (a1, z)) (G := fun s => tq_T K 4 x mm_X12_tellHeights 2 [.ref 51, .int s.1, .null] [] s.2 Q) (fun B hB s h => ab_X12_tellHeights_2 (fun b1 z h => hB (b1, z) h) h) h
def wm_X12_tellHeights  (z : tq_S) (Q : tq_O → tq_S → Prop) : Prop := wc_X12_tellHeights_2 Q (0 : Int32) z
theorem am_X12_tellHeights {K : Nat × (Nat → Int32)} {x : Nat} {z : tq_S} {Q : tq_O → tq_S → Prop}  (h : wm_X12_tellHeights z Q) : tq_M K 4 x mm_X12_tellHeights [.ref 51] z Q := by
  unfold wm_X12_tellHeights at h
  refine tq_enter (L := [.ref 51, .null, .null]) mf_X12_tellHeights.1 rfl rfl (Nat.le_of_ble_eq_true rfl) ?_
  refine tq_k_ic (n := 0) (v := (0 : Int32)) (by decide +kernel) kc_0 ?_
  refine tq_s_istore_n (kk := 1) (L9 := [.ref 51, .int (0 : Int32), .null]) (by decide +kernel) (by decide) rfl ?_
  exact ac_X12_tellHeights_2 h
def wb_X12_exchange_2 (B2 : Int32 → tq_S → Prop) (Q : tq_O → tq_S → Prop) (a1 : Int32) (z : tq_S) : Prop := (((64 : Int32) ≤ a1 → Q (.inl none) z) ∧ (¬ (64 : Int32) ≤ a1 → vp_in a1 64 ∧ ∀ v101 : Int32, v101 = (tq_ai z 56 (Int32.toNatClampNeg a1)) → vp_in a1 64 ∧ vp_in a1 64 ∧ ∀ z102 : tq_S, z102 = tq_sai z 56 (upd (tq_ai z 56) (Int32.toNatClampNeg a1) (vp_nar .char (tq_ai z 57 (Int32.toNatClampNeg a1)))) → vp_in a1 64 ∧ ∀ z103 : tq_S, z103 = tq_sai z102 57 (upd (tq_ai z102 57) (Int32.toNatClampNeg a1) (vp_nar .char v101)) → ∀ v104 : Int32, v104 = a1 + (1 : Int32) → B2 v104 z103))
def wc_X12_exchange_2 (Q : tq_O → tq_S → Prop) (a1 : Int32) (z : tq_S) : Prop := tq_lp (σ := Int32 × tq_S) (fun B s => wb_X12_exchange_2 (fun b1 z => B (b1, z)) Q s.1 s.2) (a1, z)
theorem ab_X12_exchange_2 {K : Nat × (Nat → Int32)} {x : Nat} {Q : tq_O → tq_S → Prop} {B2 : Int32 → tq_S → Prop} {a1 : Int32} {z : tq_S} (hB2 : ∀ (b1 : Int32) (z : tq_S), B2 b1 z → tq_T K 0 x mm_X12_exchange 2 [.ref 51, .int b1, .null] [] z Q) (h : wb_X12_exchange_2 B2 Q a1 z) : tq_T K 0 x mm_X12_exchange 2 [.ref 51, .int a1, .null] [] z Q := by
  unfold wb_X12_exchange_2 at h
  refine tq_s_iload_n (kk := 1) (by decide +kernel) rfl ?_
  refine tq_k_bi (n := 64) (v := (64 : Int32)) (by decide +kernel) kb_64 ?_
  refine tq_icmp_ge (off := 35) (tgt := 40) (by decide +kernel) (by decide +kernel) (fun hc => ?_) (fun hc => ?_)
  · replace h := h.1 hc
    exact tq_ret_v (st := []) (by decide +kernel) rfl h
  · replace h := h.2 hc
    refine tq_s_aload_n (kk := 0) (by decide +kernel) rfl ?_
    refine fg_12_30_51 rfl (by decide +kernel) ?_
    refine tq_s_iload_n (kk := 1) (by decide +kernel) rfl ?_
    refine tq_s_cald (by decide +kernel) sh_56 h.1 ?_
    replace h := h.2
    refine tq_g_istore_n (kk := 2) (fun v101 => [.ref 51, .int a1, .int v101]) (by decide +kernel) (by decide) (fun _ => rfl) (fun v101 ev101 => ?_)
    replace h := h v101 ev101
    refine tq_s_aload_n (kk := 0) (by decide +kernel) rfl ?_
    refine fg_12_30_51 rfl (by decide +kernel) ?_
    refine tq_s_iload_n (kk := 1) (by decide +kernel) rfl ?_
    refine tq_s_aload_n (kk := 0) (by decide +kernel) rfl ?_
    refine fg_12_34_51 rfl (by decide +kernel) ?_
    refine tq_s_iload_n (kk := 1) (by decide +kernel) rfl ?_
    refine tq_s_cald (by decide +kernel) sh_57 h.1 ?_
    replace h := h.2
    refine tq_g_cast (by decide +kernel) sh_56 h.1 (fun z102 ez102 => ?_)
    replace h := h.2 z102 ez102
    refine tq_s_aload_n (kk := 0) (by decide +kernel) rfl ?_
    refine fg_12_34_51 rfl (by decide +kernel) ?_
    refine tq_s_iload_n (kk := 1) (by decide +kernel) rfl ?_
    refine tq_s_iload_n (kk := 2) (by decide +kernel) rfl ?_
    refine tq_g_cast (by decide +kernel) sh_57 h.1 (fun z103 ez103 => ?_)
    replace h := h.2 z103 ez103
    refine tq_g_iinc (i := 1) (fun v104 => [.ref 51, .int v104, .int v101]) (by decide +kernel) rfl (1 : Int32) kc_1 (fun _ => rfl) (fun v104 ev104 => ?_)
    replace h := h v104 ev104
    refine tq_s_goto (off := -35) (tgt := 2) (by decide +kernel) (by decide +kernel) ?_
    exact tq_to (tq_lk1 (tq_lk1 (tq_ld1 tq_l0))) (hB2 _ _ h)
theorem ac_X12_exchange_2 {K : Nat × (Nat → Int32)} {x : Nat} {Q : tq_O → tq_S → Prop} {a1 : Int32} {z : tq_S} (h : wc_X12_exchange_2 Q a1 z) : tq_T K 0 x mm_X12_exchange 2 [.ref 51, .int a1, .null] [] z Q :=
  tq_lp_T (σ := Int32 × tq_S) (s := (a1, z)) (G := fun s => tq_T K 0 x mm_X12_exchange 2 [.ref 51, .int s.1, .null] [] s.2 Q) (fun B hB s h => ab_X12_exchange_2 (fun b1 z h => hB (b1, z) h) h) h
def wm_X12_exchange  (z : tq_S) (Q : tq_O → tq_S → Prop) : Prop := wc_X12_exchange_2 Q (0 : Int32) z
theorem am_X12_exchange {K : Nat × (Nat → Int32)} {x : Nat} {z : tq_S} {Q : tq_O → tq_S → Prop}  (h : wm_X12_exchange z Q) : tq_M K 0 x mm_X12_exchange [.ref 51] z Q := by
  unfold wm_X12_exchange at h
  refine tq_enter (L := [.ref 51, .null, .null]) mf_X12_exchange.1 rfl rfl (Nat.le_of_ble_eq_true rfl) ?_
  refine tq_k_ic (n := 0) (v := (0 : Int32)) (by decide +kernel) kc_0 ?_
  refine tq_s_istore_n (kk := 1) (L9 := [.ref 51, .int (0 : Int32), .null]) (by decide +kernel) (by decide) rfl ?_
  exact ac_X12_exchange_2 h
def wc_X12_apart_114 (B83 : Int32 → Int32 → tq_S → Prop) (Q : tq_O → tq_S → Prop) (a2 : Int32) (s0 : Int32) (s1 : Int32) (z : tq_S) : Prop := ∀ v101 : Int32, v101 = (s1 + s0) → ∀ v102 : Int32, v102 = a2 + (1 : Int32) → B83 v101 v102 z
theorem ac_X12_apart_114 {K : Nat × (Nat → Int32)} {x : Nat} {Q : tq_O → tq_S → Prop} {B83 : Int32 → Int32 → tq_S → Prop} {a2 : Int32} {s0 : Int32} {s1 : Int32} {z : tq_S} (hB83 : ∀ (b1 : Int32) (b2 : Int32) (z : tq_S), B83 b1 b2 z → tq_T K 5 x mm_X12_apart 83 [.ref 51, .int b1, .int b2, .null] [] z Q) (h : wc_X12_apart_114 B83 Q a2 s0 s1 z) : tq_T K 5 x mm_X12_apart 114 [.ref 51, .null, .int a2, .null] [.int s0, .int s1] z Q := by
  unfold wc_X12_apart_114 at h
  refine tq_s_iadd (by decide +kernel) ?_
  refine tq_g_istore_n (kk := 1) (fun v101 => [.ref 51, .int v101, .int a2, .null]) (by decide +kernel) (by decide) (fun _ => rfl) (fun v101 ev101 => ?_)
  replace h := h v101 ev101
  refine tq_g_iinc (i := 2) (fun v102 => [.ref 51, .int v101, .int v102, .null]) (by decide +kernel) rfl (1 : Int32) kc_1 (fun _ => rfl) (fun v102 ev102 => ?_)
  replace h := h v102 ev102
  refine tq_s_goto (off := -36) (tgt := 83) (by decide +kernel) (by decide +kernel) ?_
  exact hB83 _ _ _ h
def wb_X12_apart_83 (B83 : Int32 → Int32 → tq_S → Prop) (Q : tq_O → tq_S → Prop) (a1 : Int32) (a2 : Int32) (z : tq_S) : Prop := (((81 : Int32) ≤ a2 → Q (.inl (some (.int (a1 / (4 : Int32))))) z) ∧ (¬ (81 : Int32) ≤ a2 → vp_in a2 81 ∧ vp_in a2 81 ∧ ∀ v101 : Int32, v101 = ((tq_ai z 63 (Int32.toNatClampNeg a2)) - (tq_ai z 64 (Int32.toNatClampNeg a2))) → ((0 ≤ v101 → wc_X12_apart_114 B83 Q a2 v101 a1 z) ∧ (¬ 0 ≤ v101 → wc_X12_apart_114 B83 Q a2 (-v101) a1 z))))
def wc_X12_apart_83 (Q : tq_O → tq_S → Prop) (a1 : Int32) (a2 : Int32) (z : tq_S) : Prop := tq_lp (σ := Int32 × Int32 × tq_S) (fun B s => wb_X12_apart_83 (fun b1 b2 z => B (b1, b2, z)) Q s.1 s.2.1 s.2.2) (a1, a2, z)
theorem ab_X12_apart_83 {K : Nat × (Nat → Int32)} {x : Nat} {Q : tq_O → tq_S → Prop} {B83 : Int32 → Int32 → tq_S → Prop} {a1 : Int32} {a2 : Int32} {z : tq_S} (hB83 : ∀ (b1 : Int32) (b2 : Int32) (z : tq_S), B83 b1 b2 z → tq_T K 5 x mm_X12_apart 83 [.ref 51, .int b1, .int b2, .null] [] z Q) (h : wb_X12_apart_83 B83 Q a1 a2 z) : tq_T K 5 x mm_X12_apart 83 [.ref 51, .int a1, .int a2, .null] [] z Q := by
  unfold wb_X12_apart_83 at h
  refine tq_s_iload_n (kk := 2) (by decide +kernel) rfl ?_
  refine tq_k_bi (n := 81) (v := (81 : Int32)) (by decide +kernel) kb_81 ?_
  refine tq_icmp_ge (off := 36) (tgt := 122) (by decide +kernel) (by decide +kernel) (fun hc => ?_) (fun hc => ?_)
  · replace h := h.1 hc
    refine tq_s_iload_n (kk := 1) (by decide +kernel) rfl ?_
    refine tq_k_ic (n := 4) (v := (4 : Int32)) (by decide +kernel) kc_4 ?_
    refine tq_s_idiv (by decide +kernel) (by decide +kernel) ?_
    exact tq_ret_i (st := []) (by decide +kernel) rfl h
  · replace h := h.2 hc
    refine tq_s_aload_n (kk := 0) (by decide +kernel) rfl ?_
    refine fg_12_53_51 rfl (by decide +kernel) ?_
    refine tq_s_iload_n (kk := 2) (by decide +kernel) rfl ?_
    refine tq_s_iald (by decide +kernel) sh_63 h.1 ?_
    replace h := h.2
    refine tq_s_aload_n (kk := 0) (by decide +kernel) rfl ?_
    refine fg_12_56_51 rfl (by decide +kernel) ?_
    refine tq_s_iload_n (kk := 2) (by decide +kernel) rfl ?_
    refine tq_s_iald (by decide +kernel) sh_64 h.1 ?_
    replace h := h.2
    refine tq_s_isub (by decide +kernel) ?_
    refine tq_g_istore_n (kk := 3) (fun v101 => [.ref 51, .int a1, .int a2, .int v101]) (by decide +kernel) (by decide) (fun _ => rfl) (fun v101 ev101 => ?_)
    replace h := h v101 ev101
    refine tq_s_iload_n (kk := 1) (by decide +kernel) rfl ?_
    refine tq_s_iload_n (kk := 3) (by decide +kernel) rfl ?_
    refine tq_if_ge (off := 8) (tgt := 113) (by decide +kernel) (by decide +kernel) (fun hc => ?_) (fun hc => ?_)
    · replace h := h.1 hc
      refine tq_s_iload_n (kk := 3) (by decide +kernel) rfl ?_
      exact tq_to (tq_lk1 (tq_ld1 (tq_lk1 (tq_ld1 tq_l0)))) (ac_X12_apart_114 hB83 h)
    · replace h := h.2 hc
      refine tq_s_iload_n (kk := 3) (by decide +kernel) rfl ?_
      refine tq_s_ineg (by decide +kernel) ?_
      refine tq_s_goto (off := 4) (tgt := 114) (by decide +kernel) (by decide +kernel) ?_
      exact tq_to (tq_lk1 (tq_ld1 (tq_lk1 (tq_ld1 tq_l0)))) (ac_X12_apart_114 hB83 h)
theorem ac_X12_apart_83 {K : Nat × (Nat → Int32)} {x : Nat} {Q : tq_O → tq_S → Prop} {a1 : Int32} {a2 : Int32} {z : tq_S} (h : wc_X12_apart_83 Q a1 a2 z) : tq_T K 5 x mm_X12_apart 83 [.ref 51, .int a1, .int a2, .null] [] z Q :=
  tq_lp_T (σ := Int32 × Int32 × tq_S) (s := (a1, a2, z)) (G := fun s => tq_T K 5 x mm_X12_apart 83 [.ref 51, .int s.1, .int s.2.1, .null] [] s.2.2 Q) (fun B hB s h => ab_X12_apart_83 (fun b1 b2 z h => hB (b1, b2, z) h) h) h
def wc_X12_apart_71 (Q : tq_O → tq_S → Prop)  (z : tq_S) : Prop := wm_X12_exchange z (tq_wv fun z101 => wm_X12_tellHeights z101 (tq_wv fun z102 => wc_X12_apart_83 Q (0 : Int32) (0 : Int32) z102))
theorem ac_X12_apart_71 {K : Nat × (Nat → Int32)} {x : Nat} {Q : tq_O → tq_S → Prop}  {z : tq_S} (h : wc_X12_apart_71 Q z) : tq_T K 5 x mm_X12_apart 71 [.ref 51, .null, .null, .null] [] z Q := by
  unfold wc_X12_apart_71 at h
  refine tq_s_aload_n (kk := 0) (by decide +kernel) rfl ?_
  refine tq_callV (as := []) (st := []) (d1 := 0) (x1 := 0) (x2 := x) (by decide +kernel) ln_12_284 mf_X12_exchange rfl sh_51 rfl (by decide) np_X12_exchange rfl (Nat.le_of_ble_eq_true rfl) (by decide) (Nat.zero_add _).symm (tq_M_mono (am_X12_exchange h) ?_)
  refine tq_wv_e (fun z101 h => ?_)
  refine tq_s_aload_n (kk := 0) (by decide +kernel) rfl ?_
  refine tq_callV (as := []) (st := []) (d1 := 4) (x1 := 0) (x2 := x) (by decide +kernel) ln_12_287 mf_X12_tellHeights rfl sh_51 rfl (by decide) np_X12_tellHeights rfl (Nat.le_of_ble_eq_true rfl) (by decide) (Nat.zero_add _).symm (tq_M_mono (am_X12_tellHeights h) ?_)
  refine tq_wv_e (fun z102 h => ?_)
  refine tq_k_ic (n := 0) (v := (0 : Int32)) (by decide +kernel) kc_0 ?_
  refine tq_s_istore_n (kk := 1) (L9 := [.ref 51, .int (0 : Int32), .null, .null]) (by decide +kernel) (by decide) rfl ?_
  refine tq_k_ic (n := 0) (v := (0 : Int32)) (by decide +kernel) kc_0 ?_
  refine tq_s_istore_n (kk := 2) (L9 := [.ref 51, .int (0 : Int32), .int (0 : Int32), .null]) (by decide +kernel) (by decide) rfl ?_
  exact ac_X12_apart_83 h
def wb_X12_apart_47 (B47 : Int32 → tq_S → Prop) (Q : tq_O → tq_S → Prop) (a1 : Int32) (z : tq_S) : Prop := (((81 : Int32) ≤ a1 → wc_X12_apart_71 Q z) ∧ (¬ (81 : Int32) ≤ a1 → vp_in a1 81 ∧ vp_in a1 81 ∧ ∀ z101 : tq_S, z101 = tq_sai z 64 (upd (tq_ai z 64) (Int32.toNatClampNeg a1) (tq_ai z 63 (Int32.toNatClampNeg a1))) → ∀ v102 : Int32, v102 = a1 + (1 : Int32) → B47 v102 z101))
def wc_X12_apart_47 (Q : tq_O → tq_S → Prop) (a1 : Int32) (z : tq_S) : Prop := tq_lp (σ := Int32 × tq_S) (fun B s => wb_X12_apart_47 (fun b1 z => B (b1, z)) Q s.1 s.2) (a1, z)
theorem ab_X12_apart_47 {K : Nat × (Nat → Int32)} {x : Nat} {Q : tq_O → tq_S → Prop} {B47 : Int32 → tq_S → Prop} {a1 : Int32} {z : tq_S} (hB47 : ∀ (b1 : Int32) (z : tq_S), B47 b1 z → tq_T K 5 x mm_X12_apart 47 [.ref 51, .int b1, .null, .null] [] z Q) (h : wb_X12_apart_47 B47 Q a1 z) : tq_T K 5 x mm_X12_apart 47 [.ref 51, .int a1, .null, .null] [] z Q := by
  unfold wb_X12_apart_47 at h
  refine tq_s_iload_n (kk := 1) (by decide +kernel) rfl ?_
  refine tq_k_bi (n := 81) (v := (81 : Int32)) (by decide +kernel) kb_81 ?_
  refine tq_icmp_ge (off := 21) (tgt := 71) (by decide +kernel) (by decide +kernel) (fun hc => ?_) (fun hc => ?_)
  · replace h := h.1 hc
    exact tq_to (tq_lk1 (tq_ld1 (tq_lk1 (tq_lk1 tq_l0)))) (ac_X12_apart_71 h)
  · replace h := h.2 hc
    refine tq_s_aload_n (kk := 0) (by decide +kernel) rfl ?_
    refine fg_12_56_51 rfl (by decide +kernel) ?_
    refine tq_s_iload_n (kk := 1) (by decide +kernel) rfl ?_
    refine tq_s_aload_n (kk := 0) (by decide +kernel) rfl ?_
    refine fg_12_53_51 rfl (by decide +kernel) ?_
    refine tq_s_iload_n (kk := 1) (by decide +kernel) rfl ?_
    refine tq_s_iald (by decide +kernel) sh_63 h.1 ?_
    replace h := h.2
    refine tq_g_iast (by decide +kernel) sh_64 h.1 (fun z101 ez101 => ?_)
    replace h := h.2 z101 ez101
    refine tq_g_iinc (i := 1) (fun v102 => [.ref 51, .int v102, .null, .null]) (by decide +kernel) rfl (1 : Int32) kc_1 (fun _ => rfl) (fun v102 ev102 => ?_)
    replace h := h v102 ev102
    refine tq_s_goto (off := -21) (tgt := 47) (by decide +kernel) (by decide +kernel) ?_
    exact hB47 _ _ h
theorem ac_X12_apart_47 {K : Nat × (Nat → Int32)} {x : Nat} {Q : tq_O → tq_S → Prop} {a1 : Int32} {z : tq_S} (h : wc_X12_apart_47 Q a1 z) : tq_T K 5 x mm_X12_apart 47 [.ref 51, .int a1, .null, .null] [] z Q :=
  tq_lp_T (σ := Int32 × tq_S) (s := (a1, z)) (G := fun s => tq_T K 5 x mm_X12_apart 47 [.ref 51, .int s.1, .null, .null] [] s.2 Q) (fun B hB s h => ab_X12_apart_47 (fun b1 z h => hB (b1, z) h) h) h
def wc_X12_apart_28 (Q : tq_O → tq_S → Prop) (s0 : Int32) (z : tq_S) : Prop := wm_X12_isThrown s0 (2 : Int32) z (tq_wi fun r102 z101 => ((r102 = 0 → wm_X12_exchange z101 (tq_wv fun z103 => wm_X12_tellHeights z103 (tq_wv fun z104 => wc_X12_apart_47 Q (0 : Int32) z104))) ∧ (¬ r102 = 0 → Q (.inl (some (.int (0 : Int32)))) z101)))
theorem ac_X12_apart_28 {K : Nat × (Nat → Int32)} {x : Nat} {Q : tq_O → tq_S → Prop} {s0 : Int32} {z : tq_S} (h : wc_X12_apart_28 Q s0 z) : tq_T K 5 x mm_X12_apart 28 [.ref 51, .null, .null, .null] [.int s0, .ref 51] z Q := by
  unfold wc_X12_apart_28 at h
  refine tq_k_ic (n := 2) (v := (2 : Int32)) (by decide +kernel) kc_2 ?_
  refine tq_callV (as := [.int s0, .int (2 : Int32)]) (st := []) (d1 := 0) (x1 := 0) (x2 := x) (by decide +kernel) ln_12_152 mf_X12_isThrown rfl sh_51 rfl (by decide) np_X12_isThrown rfl (Nat.le_of_ble_eq_true rfl) (by decide) (Nat.zero_add _).symm (tq_M_mono (am_X12_isThrown h) ?_)
  refine tq_wi_e (fun r102 z101 h => ?_)
  refine tq_if_eq (off := 5) (tgt := 37) (by decide +kernel) (by decide +kernel) (fun hc => ?_) (fun hc => ?_)
  · replace h := h.1 hc
    refine tq_s_aload_n (kk := 0) (by decide +kernel) rfl ?_
    refine tq_callV (as := []) (st := []) (d1 := 0) (x1 := 0) (x2 := x) (by decide +kernel) ln_12_284 mf_X12_exchange rfl sh_51 rfl (by decide) np_X12_exchange rfl (Nat.le_of_ble_eq_true rfl) (by decide) (Nat.zero_add _).symm (tq_M_mono (am_X12_exchange h) ?_)
    refine tq_wv_e (fun z103 h => ?_)
    refine tq_s_aload_n (kk := 0) (by decide +kernel) rfl ?_
    refine tq_callV (as := []) (st := []) (d1 := 4) (x1 := 0) (x2 := x) (by decide +kernel) ln_12_287 mf_X12_tellHeights rfl sh_51 rfl (by decide) np_X12_tellHeights rfl (Nat.le_of_ble_eq_true rfl) (by decide) (Nat.zero_add _).symm (tq_M_mono (am_X12_tellHeights h) ?_)
    refine tq_wv_e (fun z104 h => ?_)
    refine tq_k_ic (n := 0) (v := (0 : Int32)) (by decide +kernel) kc_0 ?_
    refine tq_s_istore_n (kk := 1) (L9 := [.ref 51, .int (0 : Int32), .null, .null]) (by decide +kernel) (by decide) rfl ?_
    exact ac_X12_apart_47 h
  · replace h := h.2 hc
    refine tq_k_ic (n := 0) (v := (0 : Int32)) (by decide +kernel) kc_0 ?_
    exact tq_ret_i (st := []) (by decide +kernel) rfl h
def wc_X12_apart_23 (Q : tq_O → tq_S → Prop)  (z : tq_S) : Prop := wc_X12_apart_28 Q (1 : Int32) z
theorem ac_X12_apart_23 {K : Nat × (Nat → Int32)} {x : Nat} {Q : tq_O → tq_S → Prop}  {z : tq_S} (h : wc_X12_apart_23 Q z) : tq_T K 5 x mm_X12_apart 23 [.ref 51, .null, .null, .null] [.ref 51] z Q := by
  unfold wc_X12_apart_23 at h
  refine tq_k_ic (n := 1) (v := (1 : Int32)) (by decide +kernel) kc_1 ?_
  refine tq_s_goto (off := 4) (tgt := 28) (by decide +kernel) (by decide +kernel) ?_
  exact ac_X12_apart_28 h
def wm_X12_apart  (z : tq_S) (Q : tq_O → tq_S → Prop) : Prop := wm_X12_isRolledOrHoled (1 : Int32) z (tq_wi fun r2 z1 => ((¬ r2 = 0 → Q (.inl (some (.int (0 : Int32)))) z1) ∧ (r2 = 0 → (((tq_fi z1 3272) = 0 → wc_X12_apart_23 Q z1) ∧ (¬ (tq_fi z1 3272) = 0 → ((¬ (tq_fi z1 3274) = 0 → wc_X12_apart_28 Q (0 : Int32) z1) ∧ ((tq_fi z1 3274) = 0 → wc_X12_apart_23 Q z1)))))))
theorem am_X12_apart {K : Nat × (Nat → Int32)} {x : Nat} {z : tq_S} {Q : tq_O → tq_S → Prop}  (h : wm_X12_apart z Q) : tq_M K 5 x mm_X12_apart [.ref 51] z Q := by
  unfold wm_X12_apart at h
  refine tq_enter (L := [.ref 51, .null, .null, .null]) mf_X12_apart.1 rfl rfl (Nat.le_of_ble_eq_true rfl) ?_
  refine tq_s_aload_n (kk := 0) (by decide +kernel) rfl ?_
  refine tq_k_ic (n := 1) (v := (1 : Int32)) (by decide +kernel) kc_1 ?_
  refine tq_callV (as := [.int (1 : Int32)]) (st := []) (d1 := 4) (x1 := 0) (x2 := x) (by decide +kernel) ln_12_230 mf_X12_isRolledOrHoled rfl sh_51 rfl (by decide) np_X12_isRolledOrHoled rfl (Nat.le_of_ble_eq_true rfl) (by decide) (Nat.zero_add _).symm (tq_M_mono (am_X12_isRolledOrHoled h) ?_)
  refine tq_wi_e (fun r2 z1 h => ?_)
  refine tq_if_ne (off := 30) (tgt := 35) (by decide +kernel) (by decide +kernel) (fun hc => ?_) (fun hc => ?_)
  · replace h := h.1 hc
    refine tq_k_ic (n := 0) (v := (0 : Int32)) (by decide +kernel) kc_0 ?_
    exact tq_ret_i (st := []) (by decide +kernel) rfl h
  · replace h := h.2 hc
    refine tq_s_aload_n (kk := 0) (by decide +kernel) rfl ?_
    refine tq_s_aload_n (kk := 0) (by decide +kernel) rfl ?_
    refine fg_12_132_51 rfl (by decide +kernel) ?_
    refine tq_if_eq (off := 10) (tgt := 23) (by decide +kernel) (by decide +kernel) (fun hc => ?_) (fun hc => ?_)
    · replace h := h.1 hc
      exact ac_X12_apart_23 h
    · replace h := h.2 hc
      refine tq_s_aload_n (kk := 0) (by decide +kernel) rfl ?_
      refine fg_12_136_51 rfl (by decide +kernel) ?_
      refine tq_if_ne (off := 7) (tgt := 27) (by decide +kernel) (by decide +kernel) (fun hc => ?_) (fun hc => ?_)
      · replace h := h.1 hc
        refine tq_k_ic (n := 0) (v := (0 : Int32)) (by decide +kernel) kc_0 ?_
        exact ac_X12_apart_28 h
      · replace h := h.2 hc
        exact ac_X12_apart_23 h
def wc_X12_height_23 (Q : tq_O → tq_S → Prop) (a1 : Int32) (a2 : Int32) (s0 : Int32) (z : tq_S) : Prop := wm_X12_isThrown s0 (2 : Int32) z (tq_wi fun r102 z101 => ((¬ r102 = 0 → Q (.inl (some (.int (0 : Int32)))) z101) ∧ (r102 = 0 → wm_X12_hasNone (3 : Int32) z101 (tq_wi fun r104 z103 => ((r104 = 0 → wm_X12_tellHeights z103 (tq_wv fun z105 => vp_in (((9 : Int32) * a2) + a1) 81 ∧ Q (.inl (some (.int (tq_ai z105 63 (Int32.toNatClampNeg (((9 : Int32) * a2) + a1)))))) z105)) ∧ (¬ r104 = 0 → Q (.inl (some (.int (0 : Int32)))) z103))))))
theorem ac_X12_height_23 {K : Nat × (Nat → Int32)} {x : Nat} {Q : tq_O → tq_S → Prop} {a1 : Int32} {a2 : Int32} {s0 : Int32} {z : tq_S} (h : wc_X12_height_23 Q a1 a2 s0 z) : tq_T K 5 x mm_X12_height 23 [.ref 51, .int a1, .int a2] [.int s0, .ref 51] z Q := by
  unfold wc_X12_height_23 at h
  refine tq_k_ic (n := 2) (v := (2 : Int32)) (by decide +kernel) kc_2 ?_
  refine tq_callV (as := [.int s0, .int (2 : Int32)]) (st := []) (d1 := 0) (x1 := 0) (x2 := x) (by decide +kernel) ln_12_152 mf_X12_isThrown rfl sh_51 rfl (by decide) np_X12_isThrown rfl (Nat.le_of_ble_eq_true rfl) (by decide) (Nat.zero_add _).symm (tq_M_mono (am_X12_isThrown h) ?_)
  refine tq_wi_e (fun r102 z101 h => ?_)
  refine tq_if_ne (off := 11) (tgt := 38) (by decide +kernel) (by decide +kernel) (fun hc => ?_) (fun hc => ?_)
  · replace h := h.1 hc
    refine tq_k_ic (n := 0) (v := (0 : Int32)) (by decide +kernel) kc_0 ?_
    exact tq_ret_i (st := []) (by decide +kernel) rfl h
  · replace h := h.2 hc
    refine tq_s_aload_n (kk := 0) (by decide +kernel) rfl ?_
    refine tq_k_ic (n := 3) (v := (3 : Int32)) (by decide +kernel) kc_3 ?_
    refine tq_callV (as := [.int (3 : Int32)]) (st := []) (d1 := 1) (x1 := 0) (x2 := x) (by decide +kernel) ln_12_257 mf_X12_hasNone rfl sh_51 rfl (by decide) np_X12_hasNone rfl (Nat.le_of_ble_eq_true rfl) (by decide) (Nat.zero_add _).symm (tq_M_mono (am_X12_hasNone h) ?_)
    refine tq_wi_e (fun r104 z103 h => ?_)
    refine tq_if_eq (off := 5) (tgt := 40) (by decide +kernel) (by decide +kernel) (fun hc => ?_) (fun hc => ?_)
    · replace h := h.1 hc
      refine tq_s_aload_n (kk := 0) (by decide +kernel) rfl ?_
      refine tq_callV (as := []) (st := []) (d1 := 4) (x1 := 0) (x2 := x) (by decide +kernel) ln_12_287 mf_X12_tellHeights rfl sh_51 rfl (by decide) np_X12_tellHeights rfl (Nat.le_of_ble_eq_true rfl) (by decide) (Nat.zero_add _).symm (tq_M_mono (am_X12_tellHeights h) ?_)
      refine tq_wv_e (fun z105 h => ?_)
      refine tq_s_aload_n (kk := 0) (by decide +kernel) rfl ?_
      refine fg_12_53_51 rfl (by decide +kernel) ?_
      refine tq_k_bi (n := 9) (v := (9 : Int32)) (by decide +kernel) kb_9 ?_
      refine tq_s_iload_n (kk := 2) (by decide +kernel) rfl ?_
      refine tq_s_imul (by decide +kernel) ?_
      refine tq_s_iload_n (kk := 1) (by decide +kernel) rfl ?_
      refine tq_s_iadd (by decide +kernel) ?_
      refine tq_s_iald (by decide +kernel) sh_63 h.1 ?_
      replace h := h.2
      exact tq_ret_i (st := []) (by decide +kernel) rfl h
    · replace h := h.2 hc
      refine tq_k_ic (n := 0) (v := (0 : Int32)) (by decide +kernel) kc_0 ?_
      exact tq_ret_i (st := []) (by decide +kernel) rfl h
def wm_X12_height (a1 : Int32) (a2 : Int32) (z : tq_S) (Q : tq_O → tq_S → Prop) : Prop := wm_X12_isRolledOrHoled (1 : Int32) z (tq_wi fun r2 z1 => ((¬ r2 = 0 → Q (.inl (some (.int (0 : Int32)))) z1) ∧ (r2 = 0 → wm_X12_isCorner a1 a2 z1 (tq_wi fun r4 z3 => ((¬ r4 = 0 → wc_X12_height_23 Q a1 a2 (0 : Int32) z3) ∧ (r4 = 0 → wc_X12_height_23 Q a1 a2 (1 : Int32) z3))))))
theorem am_X12_height {K : Nat × (Nat → Int32)} {x : Nat} {z : tq_S} {Q : tq_O → tq_S → Prop} {a1 : Int32} {a2 : Int32} (h : wm_X12_height a1 a2 z Q) : tq_M K 5 x mm_X12_height [.ref 51, .int a1, .int a2] z Q := by
  unfold wm_X12_height at h
  refine tq_enter (L := [.ref 51, .int a1, .int a2]) mf_X12_height.1 rfl rfl (Nat.le_of_ble_eq_true rfl) ?_
  refine tq_s_aload_n (kk := 0) (by decide +kernel) rfl ?_
  refine tq_k_ic (n := 1) (v := (1 : Int32)) (by decide +kernel) kc_1 ?_
  refine tq_callV (as := [.int (1 : Int32)]) (st := []) (d1 := 4) (x1 := 0) (x2 := x) (by decide +kernel) ln_12_230 mf_X12_isRolledOrHoled rfl sh_51 rfl (by decide) np_X12_isRolledOrHoled rfl (Nat.le_of_ble_eq_true rfl) (by decide) (Nat.zero_add _).symm (tq_M_mono (am_X12_isRolledOrHoled h) ?_)
  refine tq_wi_e (fun r2 z1 h => ?_)
  refine tq_if_ne (off := 33) (tgt := 38) (by decide +kernel) (by decide +kernel) (fun hc => ?_) (fun hc => ?_)
  · replace h := h.1 hc
    refine tq_k_ic (n := 0) (v := (0 : Int32)) (by decide +kernel) kc_0 ?_
    exact tq_ret_i (st := []) (by decide +kernel) rfl h
  · replace h := h.2 hc
    refine tq_s_aload_n (kk := 0) (by decide +kernel) rfl ?_
    refine tq_s_aload_n (kk := 0) (by decide +kernel) rfl ?_
    refine tq_s_iload_n (kk := 1) (by decide +kernel) rfl ?_
    refine tq_s_iload_n (kk := 2) (by decide +kernel) rfl ?_
    refine tq_callV (as := [.int a1, .int a2]) (st := [.ref 51]) (d1 := 2) (x1 := 0) (x2 := x) (by decide +kernel) ln_12_273 mf_X12_isCorner rfl sh_51 rfl (by decide) np_X12_isCorner rfl (Nat.le_of_ble_eq_true rfl) (by decide) (Nat.zero_add _).symm (tq_M_mono (am_X12_isCorner h) ?_)
    refine tq_wi_e (fun r4 z3 h => ?_)
    refine tq_if_ne (off := 7) (tgt := 22) (by decide +kernel) (by decide +kernel) (fun hc => ?_) (fun hc => ?_)
    · replace h := h.1 hc
      refine tq_k_ic (n := 0) (v := (0 : Int32)) (by decide +kernel) kc_0 ?_
      exact ac_X12_height_23 h
    · replace h := h.2 hc
      refine tq_k_ic (n := 1) (v := (1 : Int32)) (by decide +kernel) kc_1 ?_
      refine tq_s_goto (off := 4) (tgt := 23) (by decide +kernel) (by decide +kernel) ?_
      exact ac_X12_height_23 h
def wm_X12_isThere (a1 : Int32) (z : tq_S) (Q : tq_O → tq_S → Prop) : Prop := ((a1 = (-1 : Int32) → Q (.inl (some (.int (0 : Int32)))) z) ∧ (¬ a1 = (-1 : Int32) → ((a1 = (tq_fi z 3288) → Q (.inl (some (.int (0 : Int32)))) z) ∧ (¬ a1 = (tq_fi z 3288) → vp_in a1 64 ∧ (((tq_ai z 52 (Int32.toNatClampNeg a1)) = 0 → Q (.inl (some (.int (0 : Int32)))) z) ∧ (¬ (tq_ai z 52 (Int32.toNatClampNeg a1)) = 0 → Q (.inl (some (.int (1 : Int32)))) z))))))
theorem am_X12_isThere {K : Nat × (Nat → Int32)} {x : Nat} {z : tq_S} {Q : tq_O → tq_S → Prop} {a1 : Int32} (h : wm_X12_isThere a1 z Q) : tq_M K 0 x mm_X12_isThere [.ref 51, .int a1] z Q := by
  unfold wm_X12_isThere at h
  refine tq_enter (L := [.ref 51, .int a1]) mf_X12_isThere.1 rfl rfl (Nat.le_of_ble_eq_true rfl) ?_
  refine tq_s_iload_n (kk := 1) (by decide +kernel) rfl ?_
  refine tq_k_ic (n := -1) (v := (-1 : Int32)) (by decide +kernel) kc_m1 ?_
  refine tq_icmp_eq (off := 24) (tgt := 26) (by decide +kernel) (by decide +kernel) (fun hc => ?_) (fun hc => ?_)
  · replace h := h.1 hc
    refine tq_k_ic (n := 0) (v := (0 : Int32)) (by decide +kernel) kc_0 ?_
    exact tq_ret_z (st := []) (ty := .boolean) (by decide +kernel) (by decide +kernel) rfl h
  · replace h := h.2 hc
    refine tq_s_iload_n (kk := 1) (by decide +kernel) rfl ?_
    refine tq_s_aload_n (kk := 0) (by decide +kernel) rfl ?_
    refine fg_12_65_51 rfl (by decide +kernel) ?_
    refine tq_icmp_eq (off := 16) (tgt := 26) (by decide +kernel) (by decide +kernel) (fun hc => ?_) (fun hc => ?_)
    · replace h := h.1 hc
      refine tq_k_ic (n := 0) (v := (0 : Int32)) (by decide +kernel) kc_0 ?_
      exact tq_ret_z (st := []) (ty := .boolean) (by decide +kernel) (by decide +kernel) rfl h
    · replace h := h.2 hc
      refine tq_s_aload_n (kk := 0) (by decide +kernel) rfl ?_
      refine fg_12_16_51 rfl (by decide +kernel) ?_
      refine tq_s_iload_n (kk := 1) (by decide +kernel) rfl ?_
      refine tq_s_zald (by decide +kernel) sh_52 h.1 ?_
      replace h := h.2
      refine tq_if_eq (off := 7) (tgt := 26) (by decide +kernel) (by decide +kernel) (fun hc => ?_) (fun hc => ?_)
      · replace h := h.1 hc
        refine tq_k_ic (n := 0) (v := (0 : Int32)) (by decide +kernel) kc_0 ?_
        exact tq_ret_z (st := []) (ty := .boolean) (by decide +kernel) (by decide +kernel) rfl h
      · replace h := h.2 hc
        refine tq_k_ic (n := 1) (v := (1 : Int32)) (by decide +kernel) kc_1 ?_
        refine tq_s_goto (off := 4) (tgt := 27) (by decide +kernel) (by decide +kernel) ?_
        exact tq_ret_z (st := []) (ty := .boolean) (by decide +kernel) (by decide +kernel) rfl h
def wc_X12_finds_61 (R : Int32 → tq_S → (tq_O → tq_S → Prop) → Prop) (Q : tq_O → tq_S → Prop) (a1 : Int32) (a3 : Int32) (z : tq_S) : Prop := vp_in a3 64 ∧ ∀ z101 : tq_S, z101 = tq_sai z 66 (upd (tq_ai z 66) (Int32.toNatClampNeg a3) a1) → Q (.inl (some (.int (1 : Int32)))) z101
theorem ac_X12_finds_61 {K : Nat × (Nat → Int32)} {x : Nat} {Q : tq_O → tq_S → Prop} {n : Nat} {R : Int32 → tq_S → (tq_O → tq_S → Prop) → Prop} {a1 : Int32} {a3 : Int32} {z : tq_S} (hR : ∀ (a1 : Int32) (z : tq_S) (Q : tq_O → tq_S → Prop), R a1 z Q → tq_M K (1 + n) 0 mm_X12_finds [.ref 51, .int a1] z Q) (h : wc_X12_finds_61 R Q a1 a3 z) : tq_T K (1 + n + 1) x mm_X12_finds 61 [.ref 51, .int a1, .null, .int a3] [] z Q := by
  unfold wc_X12_finds_61 at h
  refine tq_s_aload_n (kk := 0) (by decide +kernel) rfl ?_
  refine fg_12_62_51 rfl (by decide +kernel) ?_
  refine tq_s_iload_n (kk := 3) (by decide +kernel) rfl ?_
  refine tq_s_iload_n (kk := 1) (by decide +kernel) rfl ?_
  refine tq_g_iast (by decide +kernel) sh_66 h.1 (fun z101 ez101 => ?_)
  replace h := h.2 z101 ez101
  refine tq_k_ic (n := 1) (v := (1 : Int32)) (by decide +kernel) kc_1 ?_
  exact tq_ret_z (st := []) (ty := .boolean) (by decide +kernel) (by decide +kernel) rfl h
def wc_X12_finds_70 (R : Int32 → tq_S → (tq_O → tq_S → Prop) → Prop) (B2 : Int32 → tq_S → Prop) (Q : tq_O → tq_S → Prop) (a1 : Int32) (a2 : Int32) (z : tq_S) : Prop := ∀ v101 : Int32, v101 = a2 + (1 : Int32) → B2 v101 z
theorem ac_X12_finds_70 {K : Nat × (Nat → Int32)} {x : Nat} {Q : tq_O → tq_S → Prop} {n : Nat} {R : Int32 → tq_S → (tq_O → tq_S → Prop) → Prop} {B2 : Int32 → tq_S → Prop} {a1 : Int32} {a2 : Int32} {z : tq_S} (hR : ∀ (a1 : Int32) (z : tq_S) (Q : tq_O → tq_S → Prop), R a1 z Q → tq_M K (1 + n) 0 mm_X12_finds [.ref 51, .int a1] z Q) (hB2 : ∀ (b2 : Int32) (z : tq_S), B2 b2 z → tq_T K (1 + n + 1) x mm_X12_finds 2 [.ref 51, .int a1, .int b2, .null] [] z Q) (h : wc_X12_finds_70 R B2 Q a1 a2 z) : tq_T K (1 + n + 1) x mm_X12_finds 70 [.ref 51, .int a1, .int a2, .null] [] z Q := by
  unfold wc_X12_finds_70 at h
  refine tq_g_iinc (i := 2) (fun v101 => [.ref 51, .int a1, .int v101, .null]) (by decide +kernel) rfl (1 : Int32) kc_1 (fun _ => rfl) (fun v101 ev101 => ?_)
  replace h := h v101 ev101
  refine tq_s_goto (off := -71) (tgt := 2) (by decide +kernel) (by decide +kernel) ?_
  exact hB2 _ _ h
def wb_X12_finds_2 (R : Int32 → tq_S → (tq_O → tq_S → Prop) → Prop) (B2 : Int32 → tq_S → Prop) (Q : tq_O → tq_S → Prop) (a1 : Int32) (a2 : Int32) (z : tq_S) : Prop := (((4 : Int32) ≤ a2 → Q (.inl (some (.int (0 : Int32)))) z) ∧ (¬ (4 : Int32) ≤ a2 → wm_X12_beside a1 a2 z (tq_wi fun r102 z101 => wm_X12_isThere r102 z101 (tq_wi fun r104 z103 => ((r104 = 0 → wc_X12_finds_70 R B2 Q a1 a2 z103) ∧ (¬ r104 = 0 → vp_in r102 64 ∧ ((¬ (tq_ai z103 61 (Int32.toNatClampNeg r102)) = 0 → wc_X12_finds_70 R B2 Q a1 a2 z103) ∧ ((tq_ai z103 61 (Int32.toNatClampNeg r102)) = 0 → vp_in r102 64 ∧ ∀ z105 : tq_S, z105 = tq_sai z103 61 (upd (tq_ai z103 61) (Int32.toNatClampNeg r102) (vp_nar .boolean (1 : Int32))) → vp_in r102 64 ∧ (((tq_ai z105 66 (Int32.toNatClampNeg r102)) = (-1 : Int32) → wc_X12_finds_61 R Q a1 r102 z105) ∧ (¬ (tq_ai z105 66 (Int32.toNatClampNeg r102)) = (-1 : Int32) → vp_in r102 64 ∧ R (tq_ai z105 66 (Int32.toNatClampNeg r102)) z105 (tq_wi fun r107 z106 => ((r107 = 0 → wc_X12_finds_70 R B2 Q a1 a2 z106) ∧ (¬ r107 = 0 → wc_X12_finds_61 R Q a1 r102 z106)))))))))))))
def wc_X12_finds_2 (R : Int32 → tq_S → (tq_O → tq_S → Prop) → Prop) (Q : tq_O → tq_S → Prop) (a1 : Int32) (a2 : Int32) (z : tq_S) : Prop := tq_lp (σ := Int32 × tq_S) (fun B s => wb_X12_finds_2 R (fun b2 z => B (b2, z)) Q a1 s.1 s.2) (a2, z)
theorem ab_X12_finds_2 {K : Nat × (Nat → Int32)} {x : Nat} {Q : tq_O → tq_S → Prop} {n : Nat} {R : Int32 → tq_S → (tq_O → tq_S → Prop) → Prop} {B2 : Int32 → tq_S → Prop} {a1 : Int32} {a2 : Int32} {z : tq_S} (hR : ∀ (a1 : Int32) (z : tq_S) (Q : tq_O → tq_S → Prop), R a1 z Q → tq_M K (1 + n) 0 mm_X12_finds [.ref 51, .int a1] z Q) (hB2 : ∀ (b2 : Int32) (z : tq_S), B2 b2 z → tq_T K (1 + n + 1) x mm_X12_finds 2 [.ref 51, .int a1, .int b2, .null] [] z Q) (h : wb_X12_finds_2 R B2 Q a1 a2 z) : tq_T K (1 + n + 1) x mm_X12_finds 2 [.ref 51, .int a1, .int a2, .null] [] z Q := by
  unfold wb_X12_finds_2 at h
  refine tq_s_iload_n (kk := 2) (by decide +kernel) rfl ?_
  refine tq_k_ic (n := 4) (v := (4 : Int32)) (by decide +kernel) kc_4 ?_
  refine tq_icmp_ge (off := 72) (tgt := 76) (by decide +kernel) (by decide +kernel) (fun hc => ?_) (fun hc => ?_)
  · replace h := h.1 hc
    refine tq_k_ic (n := 0) (v := (0 : Int32)) (by decide +kernel) kc_0 ?_
    exact tq_ret_z (st := []) (ty := .boolean) (by decide +kernel) (by decide +kernel) rfl h
  · replace h := h.2 hc
    refine tq_s_aload_n (kk := 0) (by decide +kernel) rfl ?_
    refine tq_s_iload_n (kk := 1) (by decide +kernel) rfl ?_
    refine tq_s_iload_n (kk := 2) (by decide +kernel) rfl ?_
    refine tq_callV (as := [.int a1, .int a2]) (st := []) (d1 := 1) (x1 := 0) (x2 := x) (by decide +kernel) ln_12_184 mf_X12_beside rfl sh_51 rfl (by decide) np_X12_beside rfl (Nat.le_of_ble_eq_true rfl) (by omega) (Nat.zero_add _).symm (tq_M_mono (am_X12_beside h) ?_)
    refine tq_wi_e (fun r102 z101 h => ?_)
    refine tq_s_istore_n (kk := 3) (L9 := [.ref 51, .int a1, .int a2, .int r102]) (by decide +kernel) (by decide) rfl ?_
    refine tq_s_aload_n (kk := 0) (by decide +kernel) rfl ?_
    refine tq_s_iload_n (kk := 3) (by decide +kernel) rfl ?_
    refine tq_callV (as := [.int r102]) (st := []) (d1 := 0) (x1 := 0) (x2 := x) (by decide +kernel) ln_12_290 mf_X12_isThere rfl sh_51 rfl (by decide) np_X12_isThere rfl (Nat.le_of_ble_eq_true rfl) (by omega) (Nat.zero_add _).symm (tq_M_mono (am_X12_isThere h) ?_)
    refine tq_wi_e (fun r104 z103 h => ?_)
    refine tq_if_eq (off := 51) (tgt := 70) (by decide +kernel) (by decide +kernel) (fun hc => ?_) (fun hc => ?_)
    · replace h := h.1 hc
      exact tq_to (tq_lk1 (tq_lk1 (tq_lk1 (tq_ld1 tq_l0)))) (ac_X12_finds_70 hR hB2 h)
    · replace h := h.2 hc
      refine tq_s_aload_n (kk := 0) (by decide +kernel) rfl ?_
      refine fg_12_46_51 rfl (by decide +kernel) ?_
      refine tq_s_iload_n (kk := 3) (by decide +kernel) rfl ?_
      refine tq_s_zald (by decide +kernel) sh_61 h.1 ?_
      replace h := h.2
      refine tq_if_ne (off := 42) (tgt := 70) (by decide +kernel) (by decide +kernel) (fun hc => ?_) (fun hc => ?_)
      · replace h := h.1 hc
        exact tq_to (tq_lk1 (tq_lk1 (tq_lk1 (tq_ld1 tq_l0)))) (ac_X12_finds_70 hR hB2 h)
      · replace h := h.2 hc
        refine tq_s_aload_n (kk := 0) (by decide +kernel) rfl ?_
        refine fg_12_46_51 rfl (by decide +kernel) ?_
        refine tq_s_iload_n (kk := 3) (by decide +kernel) rfl ?_
        refine tq_k_ic (n := 1) (v := (1 : Int32)) (by decide +kernel) kc_1 ?_
        refine tq_g_zast (by decide +kernel) sh_61 h.1 (fun z105 ez105 => ?_)
        replace h := h.2 z105 ez105
        refine tq_s_aload_n (kk := 0) (by decide +kernel) rfl ?_
        refine fg_12_62_51 rfl (by decide +kernel) ?_
        refine tq_s_iload_n (kk := 3) (by decide +kernel) rfl ?_
        refine tq_s_iald (by decide +kernel) sh_66 h.1 ?_
        replace h := h.2
        refine tq_k_ic (n := -1) (v := (-1 : Int32)) (by decide +kernel) kc_m1 ?_
        refine tq_icmp_eq (off := 16) (tgt := 61) (by decide +kernel) (by decide +kernel) (fun hc => ?_) (fun hc => ?_)
        · replace h := h.1 hc
          exact tq_to (tq_lk1 (tq_lk1 (tq_ld1 (tq_lk1 tq_l0)))) (ac_X12_finds_61 hR h)
        · replace h := h.2 hc
          refine tq_s_aload_n (kk := 0) (by decide +kernel) rfl ?_
          refine tq_s_aload_n (kk := 0) (by decide +kernel) rfl ?_
          refine fg_12_62_51 rfl (by decide +kernel) ?_
          refine tq_s_iload_n (kk := 3) (by decide +kernel) rfl ?_
          refine tq_s_iald (by decide +kernel) sh_66 h.1 ?_
          replace h := h.2
          refine tq_callV (as := [.int (tq_ai z105 66 (Int32.toNatClampNeg r102))]) (st := []) (d1 := (1 + n)) (x1 := 0) (x2 := x) (by decide +kernel) ln_12_293 mf_X12_finds rfl sh_51 rfl (by decide) np_X12_finds rfl (Nat.le_of_ble_eq_true rfl) (by omega) (Nat.zero_add _).symm (tq_M_mono (hR _ _ _ h) ?_)
          refine tq_wi_e (fun r107 z106 h => ?_)
          refine tq_if_eq (off := 12) (tgt := 70) (by decide +kernel) (by decide +kernel) (fun hc => ?_) (fun hc => ?_)
          · replace h := h.1 hc
            exact tq_to (tq_lk1 (tq_lk1 (tq_lk1 (tq_ld1 tq_l0)))) (ac_X12_finds_70 hR hB2 h)
          · replace h := h.2 hc
            exact tq_to (tq_lk1 (tq_lk1 (tq_ld1 (tq_lk1 tq_l0)))) (ac_X12_finds_61 hR h)
theorem ac_X12_finds_2 {K : Nat × (Nat → Int32)} {x : Nat} {Q : tq_O → tq_S → Prop} {n : Nat} {R : Int32 → tq_S → (tq_O → tq_S → Prop) → Prop} {a1 : Int32} {a2 : Int32} {z : tq_S} (hR : ∀ (a1 : Int32) (z : tq_S) (Q : tq_O → tq_S → Prop), R a1 z Q → tq_M K (1 + n) 0 mm_X12_finds [.ref 51, .int a1] z Q) (h : wc_X12_finds_2 R Q a1 a2 z) : tq_T K (1 + n + 1) x mm_X12_finds 2 [.ref 51, .int a1, .int a2, .null] [] z Q :=
  tq_lp_T (σ := Int32 × tq_S) (s := (a2, z)) (G := fun s => tq_T K (1 + n + 1) x mm_X12_finds 2 [.ref 51, .int a1, .int s.1, .null] [] s.2 Q) (fun B hB s h => ab_X12_finds_2 hR (fun b2 z h => hB (b2, z) h) h) h
def we_X12_finds (R : Int32 → tq_S → (tq_O → tq_S → Prop) → Prop) (a1 : Int32) (z : tq_S) (Q : tq_O → tq_S → Prop) : Prop := wc_X12_finds_2 R Q a1 (0 : Int32) z
def wm_X12_finds : Nat → Int32 → tq_S → (tq_O → tq_S → Prop) → Prop
  | 0, _, _, _ => False
  | n + 1, a1, z, Q => we_X12_finds (wm_X12_finds n) a1 z Q
theorem ae_X12_finds {K : Nat × (Nat → Int32)} {x : Nat} {n : Nat} {R : Int32 → tq_S → (tq_O → tq_S → Prop) → Prop} {a1 : Int32} {z : tq_S} {Q : tq_O → tq_S → Prop} (hR : ∀ (a1 : Int32) (z : tq_S) (Q : tq_O → tq_S → Prop), R a1 z Q → tq_M K (1 + n) 0 mm_X12_finds [.ref 51, .int a1] z Q) (h : we_X12_finds R a1 z Q) : tq_M K (1 + n + 1) x mm_X12_finds [.ref 51, .int a1] z Q := by
  unfold we_X12_finds at h
  refine tq_enter (L := [.ref 51, .int a1, .null, .null]) mf_X12_finds.1 rfl rfl (Nat.le_of_ble_eq_true rfl) ?_
  refine tq_k_ic (n := 0) (v := (0 : Int32)) (by decide +kernel) kc_0 ?_
  refine tq_s_istore_n (kk := 2) (L9 := [.ref 51, .int a1, .int (0 : Int32), .null]) (by decide +kernel) (by decide) rfl ?_
  exact ac_X12_finds_2 hR h
theorem am_X12_finds {K : Nat × (Nat → Int32)} : ∀ (n : Nat) {x : Nat} {a1 : Int32} {z : tq_S} {Q : tq_O → tq_S → Prop} (h : wm_X12_finds n a1 z Q), tq_M K (1 + n) x mm_X12_finds [.ref 51, .int a1] z Q
  | 0, _, _, _, _, h => False.elim h
  | n + 1, _, _, _, _, h => ae_X12_finds (n := n) (fun _ _ _ h => am_X12_finds n h) h
def wc_X12_most_78 (B30 : Int32 → Int32 → tq_S → Prop) (Q : tq_O → tq_S → Prop) (a2 : Int32) (a3 : Int32) (z : tq_S) : Prop := ∀ v101 : Int32, v101 = a3 + (1 : Int32) → B30 a2 v101 z
theorem ac_X12_most_78 {K : Nat × (Nat → Int32)} {x : Nat} {Q : tq_O → tq_S → Prop} {B30 : Int32 → Int32 → tq_S → Prop} {a2 : Int32} {a3 : Int32} {z : tq_S} (hB30 : ∀ (b2 : Int32) (b3 : Int32) (z : tq_S), B30 b2 b3 z → tq_T K 42 x mm_X12_most 30 [.ref 51, .null, .int b2, .int b3] [] z Q) (h : wc_X12_most_78 B30 Q a2 a3 z) : tq_T K 42 x mm_X12_most 78 [.ref 51, .null, .int a2, .int a3] [] z Q := by
  unfold wc_X12_most_78 at h
  refine tq_g_iinc (i := 3) (fun v101 => [.ref 51, .null, .int a2, .int v101]) (by decide +kernel) rfl (1 : Int32) kc_1 (fun _ => rfl) (fun v101 ev101 => ?_)
  replace h := h v101 ev101
  refine tq_s_goto (off := -51) (tgt := 30) (by decide +kernel) (by decide +kernel) ?_
  exact hB30 _ _ _ h
def wc_X12_most_76 (B30 : Int32 → Int32 → tq_S → Prop) (Q : tq_O → tq_S → Prop) (a3 : Int32) (s0 : Int32) (s1 : Int32) (z : tq_S) : Prop := ∀ v101 : Int32, v101 = (s1 + s0) → wc_X12_most_78 B30 Q v101 a3 z
theorem ac_X12_most_76 {K : Nat × (Nat → Int32)} {x : Nat} {Q : tq_O → tq_S → Prop} {B30 : Int32 → Int32 → tq_S → Prop} {a3 : Int32} {s0 : Int32} {s1 : Int32} {z : tq_S} (hB30 : ∀ (b2 : Int32) (b3 : Int32) (z : tq_S), B30 b2 b3 z → tq_T K 42 x mm_X12_most 30 [.ref 51, .null, .int b2, .int b3] [] z Q) (h : wc_X12_most_76 B30 Q a3 s0 s1 z) : tq_T K 42 x mm_X12_most 76 [.ref 51, .null, .null, .int a3] [.int s0, .int s1] z Q := by
  unfold wc_X12_most_76 at h
  refine tq_s_iadd (by decide +kernel) ?_
  refine tq_g_istore_n (kk := 2) (fun v101 => [.ref 51, .null, .int v101, .int a3]) (by decide +kernel) (by decide) (fun _ => rfl) (fun v101 ev101 => ?_)
  replace h := h v101 ev101
  exact ac_X12_most_78 hB30 h
def wb_X12_most_30 (B30 : Int32 → Int32 → tq_S → Prop) (Q : tq_O → tq_S → Prop) (a2 : Int32) (a3 : Int32) (z : tq_S) : Prop := (((64 : Int32) ≤ a3 → Q (.inl (some (.int a2))) z) ∧ (¬ (64 : Int32) ≤ a3 → wm_X12_isThere a3 z (tq_wi fun r102 z101 => ((r102 = 0 → wc_X12_most_78 B30 Q a2 a3 z101) ∧ (¬ r102 = 0 → wm_X12_isDark (a3 - a3 / (8 : Int32) * (8 : Int32)) (a3 / (8 : Int32)) z101 (tq_wi fun r104 z103 => ((r104 = 0 → wc_X12_most_78 B30 Q a2 a3 z103) ∧ (¬ r104 = 0 → wm_X12_noneSeen z103 (tq_wv fun z105 => wm_X12_finds 40 a3 z105 (tq_wi fun r107 z106 => ((r107 = 0 → wc_X12_most_76 B30 Q a3 (0 : Int32) a2 z106) ∧ (¬ r107 = 0 → wc_X12_most_76 B30 Q a3 (1 : Int32) a2 z106))))))))))))
def wc_X12_most_30 (Q : tq_O → tq_S → Prop) (a2 : Int32) (a3 : Int32) (z : tq_S) : Prop := tq_lp (σ := Int32 × Int32 × tq_S) (fun B s => wb_X12_most_30 (fun b2 b3 z => B (b2, b3, z)) Q s.1 s.2.1 s.2.2) (a2, a3, z)
theorem ab_X12_most_30 {K : Nat × (Nat → Int32)} {x : Nat} {Q : tq_O → tq_S → Prop} {B30 : Int32 → Int32 → tq_S → Prop} {a2 : Int32} {a3 : Int32} {z : tq_S} (hB30 : ∀ (b2 : Int32) (b3 : Int32) (z : tq_S), B30 b2 b3 z → tq_T K 42 x mm_X12_most 30 [.ref 51, .null, .int b2, .int b3] [] z Q) (h : wb_X12_most_30 B30 Q a2 a3 z) : tq_T K 42 x mm_X12_most 30 [.ref 51, .null, .int a2, .int a3] [] z Q := by
  unfold wb_X12_most_30 at h
  refine tq_s_iload_n (kk := 3) (by decide +kernel) rfl ?_
  refine tq_k_bi (n := 64) (v := (64 : Int32)) (by decide +kernel) kb_64 ?_
  refine tq_icmp_ge (off := 51) (tgt := 84) (by decide +kernel) (by decide +kernel) (fun hc => ?_) (fun hc => ?_)
  · replace h := h.1 hc
    refine tq_s_iload_n (kk := 2) (by decide +kernel) rfl ?_
    exact tq_ret_i (st := []) (by decide +kernel) rfl h
  · replace h := h.2 hc
    refine tq_s_aload_n (kk := 0) (by decide +kernel) rfl ?_
    refine tq_s_iload_n (kk := 3) (by decide +kernel) rfl ?_
    refine tq_callV (as := [.int a3]) (st := []) (d1 := 0) (x1 := 0) (x2 := x) (by decide +kernel) ln_12_290 mf_X12_isThere rfl sh_51 rfl (by decide) np_X12_isThere rfl (Nat.le_of_ble_eq_true rfl) (by decide) (Nat.zero_add _).symm (tq_M_mono (am_X12_isThere h) ?_)
    refine tq_wi_e (fun r102 z101 h => ?_)
    refine tq_if_eq (off := 37) (tgt := 78) (by decide +kernel) (by decide +kernel) (fun hc => ?_) (fun hc => ?_)
    · replace h := h.1 hc
      exact ac_X12_most_78 hB30 h
    · replace h := h.2 hc
      refine tq_s_iload_n (kk := 3) (by decide +kernel) rfl ?_
      refine tq_k_bi (n := 8) (v := (8 : Int32)) (by decide +kernel) kb_8 ?_
      refine tq_s_irem (by decide +kernel) (by decide +kernel) ?_
      refine tq_s_iload_n (kk := 3) (by decide +kernel) rfl ?_
      refine tq_k_bi (n := 8) (v := (8 : Int32)) (by decide +kernel) kb_8 ?_
      refine tq_s_idiv (by decide +kernel) (by decide +kernel) ?_
      refine tq_callS (as := [.int (a3 - a3 / (8 : Int32) * (8 : Int32)), .int (a3 / (8 : Int32))]) (st := []) (d1 := 0) (x1 := 0) (x2 := x) (by decide +kernel) ln_12_168 mf_X12_isDark rfl (by decide) np_X12_isDark rfl (Nat.le_of_ble_eq_true rfl) (by decide) (Nat.zero_add _).symm (tq_M_mono (am_X12_isDark h) ?_)
      refine tq_wi_e (fun r104 z103 h => ?_)
      refine tq_if_eq (off := 23) (tgt := 78) (by decide +kernel) (by decide +kernel) (fun hc => ?_) (fun hc => ?_)
      · replace h := h.1 hc
        exact ac_X12_most_78 hB30 h
      · replace h := h.2 hc
        refine tq_s_aload_n (kk := 0) (by decide +kernel) rfl ?_
        refine tq_callV (as := []) (st := []) (d1 := 0) (x1 := 0) (x2 := x) (by decide +kernel) ln_12_177 mf_X12_noneSeen rfl sh_51 rfl (by decide) np_X12_noneSeen rfl (Nat.le_of_ble_eq_true rfl) (by decide) (Nat.zero_add _).symm (tq_M_mono (am_X12_noneSeen h) ?_)
        refine tq_wv_e (fun z105 h => ?_)
        refine tq_s_iload_n (kk := 2) (by decide +kernel) rfl ?_
        refine tq_s_aload_n (kk := 0) (by decide +kernel) rfl ?_
        refine tq_s_iload_n (kk := 3) (by decide +kernel) rfl ?_
        refine tq_callV (as := [.int a3]) (st := [.int a2]) (d1 := 41) (x1 := 0) (x2 := x) (by decide +kernel) ln_12_293 mf_X12_finds rfl sh_51 rfl (by decide) np_X12_finds rfl (Nat.le_of_ble_eq_true rfl) (by decide) (Nat.zero_add _).symm (tq_M_mono (am_X12_finds 40 h) ?_)
        refine tq_wi_e (fun r107 z106 h => ?_)
        refine tq_if_eq (off := 7) (tgt := 75) (by decide +kernel) (by decide +kernel) (fun hc => ?_) (fun hc => ?_)
        · replace h := h.1 hc
          refine tq_k_ic (n := 0) (v := (0 : Int32)) (by decide +kernel) kc_0 ?_
          exact tq_to (tq_lk1 (tq_lk1 (tq_ld1 (tq_lk1 tq_l0)))) (ac_X12_most_76 hB30 h)
        · replace h := h.2 hc
          refine tq_k_ic (n := 1) (v := (1 : Int32)) (by decide +kernel) kc_1 ?_
          refine tq_s_goto (off := 4) (tgt := 76) (by decide +kernel) (by decide +kernel) ?_
          exact tq_to (tq_lk1 (tq_lk1 (tq_ld1 (tq_lk1 tq_l0)))) (ac_X12_most_76 hB30 h)
theorem ac_X12_most_30 {K : Nat × (Nat → Int32)} {x : Nat} {Q : tq_O → tq_S → Prop} {a2 : Int32} {a3 : Int32} {z : tq_S} (h : wc_X12_most_30 Q a2 a3 z) : tq_T K 42 x mm_X12_most 30 [.ref 51, .null, .int a2, .int a3] [] z Q :=
  tq_lp_T (σ := Int32 × Int32 × tq_S) (s := (a2, a3, z)) (G := fun s => tq_T K 42 x mm_X12_most 30 [.ref 51, .null, .int s.1, .int s.2.1] [] s.2.2 Q) (fun B hB s h => ab_X12_most_30 (fun b2 b3 z h => hB (b2, b3, z) h) h) h
def wc_X12_most_26 (Q : tq_O → tq_S → Prop)  (z : tq_S) : Prop := wc_X12_most_30 Q (0 : Int32) (0 : Int32) z
theorem ac_X12_most_26 {K : Nat × (Nat → Int32)} {x : Nat} {Q : tq_O → tq_S → Prop}  {z : tq_S} (h : wc_X12_most_26 Q z) : tq_T K 42 x mm_X12_most 26 [.ref 51, .null, .null, .null] [] z Q := by
  unfold wc_X12_most_26 at h
  refine tq_k_ic (n := 0) (v := (0 : Int32)) (by decide +kernel) kc_0 ?_
  refine tq_s_istore_n (kk := 2) (L9 := [.ref 51, .null, .int (0 : Int32), .null]) (by decide +kernel) (by decide) rfl ?_
  refine tq_k_ic (n := 0) (v := (0 : Int32)) (by decide +kernel) kc_0 ?_
  refine tq_s_istore_n (kk := 3) (L9 := [.ref 51, .null, .int (0 : Int32), .int (0 : Int32)]) (by decide +kernel) (by decide) rfl ?_
  exact ac_X12_most_30 h
def wb_X12_most_7 (B7 : Int32 → tq_S → Prop) (Q : tq_O → tq_S → Prop) (a2 : Int32) (z : tq_S) : Prop := (((64 : Int32) ≤ a2 → wc_X12_most_26 Q z) ∧ (¬ (64 : Int32) ≤ a2 → vp_in a2 64 ∧ ∀ z101 : tq_S, z101 = tq_sai z 66 (upd (tq_ai z 66) (Int32.toNatClampNeg a2) (-1 : Int32)) → ∀ v102 : Int32, v102 = a2 + (1 : Int32) → B7 v102 z101))
def wc_X12_most_7 (Q : tq_O → tq_S → Prop) (a2 : Int32) (z : tq_S) : Prop := tq_lp (σ := Int32 × tq_S) (fun B s => wb_X12_most_7 (fun b2 z => B (b2, z)) Q s.1 s.2) (a2, z)
theorem ab_X12_most_7 {K : Nat × (Nat → Int32)} {x : Nat} {Q : tq_O → tq_S → Prop} {B7 : Int32 → tq_S → Prop} {a2 : Int32} {z : tq_S} (hB7 : ∀ (b2 : Int32) (z : tq_S), B7 b2 z → tq_T K 42 x mm_X12_most 7 [.ref 51, .null, .int b2, .null] [] z Q) (h : wb_X12_most_7 B7 Q a2 z) : tq_T K 42 x mm_X12_most 7 [.ref 51, .null, .int a2, .null] [] z Q := by
  unfold wb_X12_most_7 at h
  refine tq_s_iload_n (kk := 2) (by decide +kernel) rfl ?_
  refine tq_k_bi (n := 64) (v := (64 : Int32)) (by decide +kernel) kb_64 ?_
  refine tq_icmp_ge (off := 16) (tgt := 26) (by decide +kernel) (by decide +kernel) (fun hc => ?_) (fun hc => ?_)
  · replace h := h.1 hc
    exact tq_to (tq_lk1 (tq_lk1 (tq_ld1 (tq_lk1 tq_l0)))) (ac_X12_most_26 h)
  · replace h := h.2 hc
    refine tq_s_aload_n (kk := 0) (by decide +kernel) rfl ?_
    refine fg_12_62_51 rfl (by decide +kernel) ?_
    refine tq_s_iload_n (kk := 2) (by decide +kernel) rfl ?_
    refine tq_k_ic (n := -1) (v := (-1 : Int32)) (by decide +kernel) kc_m1 ?_
    refine tq_g_iast (by decide +kernel) sh_66 h.1 (fun z101 ez101 => ?_)
    replace h := h.2 z101 ez101
    refine tq_g_iinc (i := 2) (fun v102 => [.ref 51, .null, .int v102, .null]) (by decide +kernel) rfl (1 : Int32) kc_1 (fun _ => rfl) (fun v102 ev102 => ?_)
    replace h := h v102 ev102
    refine tq_s_goto (off := -16) (tgt := 7) (by decide +kernel) (by decide +kernel) ?_
    exact hB7 _ _ h
theorem ac_X12_most_7 {K : Nat × (Nat → Int32)} {x : Nat} {Q : tq_O → tq_S → Prop} {a2 : Int32} {z : tq_S} (h : wc_X12_most_7 Q a2 z) : tq_T K 42 x mm_X12_most 7 [.ref 51, .null, .int a2, .null] [] z Q :=
  tq_lp_T (σ := Int32 × tq_S) (s := (a2, z)) (G := fun s => tq_T K 42 x mm_X12_most 7 [.ref 51, .null, .int s.1, .null] [] s.2 Q) (fun B hB s h => ab_X12_most_7 (fun b2 z h => hB (b2, z) h) h) h
def wm_X12_most (a1 : Int32) (z : tq_S) (Q : tq_O → tq_S → Prop) : Prop := ∀ z1 : tq_S, z1 = tq_sfi z 3288 a1 → wc_X12_most_7 Q (0 : Int32) z1
theorem am_X12_most {K : Nat × (Nat → Int32)} {x : Nat} {z : tq_S} {Q : tq_O → tq_S → Prop} {a1 : Int32} (h : wm_X12_most a1 z Q) : tq_M K 42 x mm_X12_most [.ref 51, .int a1] z Q := by
  unfold wm_X12_most at h
  refine tq_enter (L := [.ref 51, .int a1, .null, .null]) mf_X12_most.1 rfl rfl (Nat.le_of_ble_eq_true rfl) ?_
  refine tq_s_aload_n (kk := 0) (by decide +kernel) rfl ?_
  refine tq_s_iload_n (kk := 1) (by decide +kernel) rfl ?_
  refine fp_12_65_51 rfl (by decide +kernel) (fun z1 ez1 => ?_)
  replace h := h z1 ez1
  refine tq_k_ic (n := 0) (v := (0 : Int32)) (by decide +kernel) kc_0 ?_
  refine tq_s_istore_n (kk := 2) (L9 := [.ref 51, .int a1, .int (0 : Int32), .null]) (by decide +kernel) (by decide) rfl ?_
  exact tq_to (tq_lk1 (tq_ld1 (tq_lk1 (tq_lk1 tq_l0)))) (ac_X12_most_7 h)
def wm_X12_free  (z : tq_S) (Q : tq_O → tq_S → Prop) : Prop := ∀ z1 : tq_S, z1 = tq_sfi z 3264 (0 : Int32) → wm_X12_many z1 (tq_wi fun r3 z2 => wm_X12_most (-1 : Int32) z2 (tq_wi fun r5 z4 => Q (.inl (some (.int (r3 - ((2 : Int32) * r5))))) z4))
theorem am_X12_free {K : Nat × (Nat → Int32)} {x : Nat} {z : tq_S} {Q : tq_O → tq_S → Prop}  (h : wm_X12_free z Q) : tq_M K 43 x mm_X12_free [.ref 51] z Q := by
  unfold wm_X12_free at h
  refine tq_enter (L := [.ref 51]) mf_X12_free.1 rfl rfl (Nat.le_of_ble_eq_true rfl) ?_
  refine tq_s_aload_n (kk := 0) (by decide +kernel) rfl ?_
  refine tq_k_ic (n := 0) (v := (0 : Int32)) (by decide +kernel) kc_0 ?_
  refine fp_12_129_51 rfl (by decide +kernel) (fun z1 ez1 => ?_)
  replace h := h z1 ez1
  refine tq_s_aload_n (kk := 0) (by decide +kernel) rfl ?_
  refine tq_callV (as := []) (st := []) (d1 := 0) (x1 := 0) (x2 := x) (by decide +kernel) ln_12_160 mf_X12_many rfl sh_51 rfl (by decide) np_X12_many rfl (Nat.le_of_ble_eq_true rfl) (by decide) (Nat.zero_add _).symm (tq_M_mono (am_X12_many h) ?_)
  refine tq_wi_e (fun r3 z2 h => ?_)
  refine tq_k_ic (n := 2) (v := (2 : Int32)) (by decide +kernel) kc_2 ?_
  refine tq_s_aload_n (kk := 0) (by decide +kernel) rfl ?_
  refine tq_k_ic (n := -1) (v := (-1 : Int32)) (by decide +kernel) kc_m1 ?_
  refine tq_callV (as := [.int (-1 : Int32)]) (st := [.int (2 : Int32), .int r3]) (d1 := 42) (x1 := 0) (x2 := x) (by decide +kernel) ln_12_296 mf_X12_most rfl sh_51 rfl (by decide) np_X12_most rfl (Nat.le_of_ble_eq_true rfl) (by decide) (Nat.zero_add _).symm (tq_M_mono (am_X12_most h) ?_)
  refine tq_wi_e (fun r5 z4 h => ?_)
  refine tq_s_imul (by decide +kernel) ?_
  refine tq_s_isub (by decide +kernel) ?_
  exact tq_ret_i (st := []) (by decide +kernel) rfl h
def wc_X12_roleOf_56 (B14 : Int32 → tq_S → Prop) (Q : tq_O → tq_S → Prop) (a1 : Int32) (a2 : Int32) (a3 : Int32) (z : tq_S) : Prop := ∀ v101 : Int32, v101 = a3 + (1 : Int32) → B14 v101 z
theorem ac_X12_roleOf_56 {K : Nat × (Nat → Int32)} {x : Nat} {Q : tq_O → tq_S → Prop} {B14 : Int32 → tq_S → Prop} {a1 : Int32} {a2 : Int32} {a3 : Int32} {z : tq_S} (hB14 : ∀ (b3 : Int32) (z : tq_S), B14 b3 z → tq_T K 43 x mm_X12_roleOf 14 [.ref 51, .int a1, .int a2, .int b3, .null] [] z Q) (h : wc_X12_roleOf_56 B14 Q a1 a2 a3 z) : tq_T K 43 x mm_X12_roleOf 56 [.ref 51, .int a1, .int a2, .int a3, .null] [] z Q := by
  unfold wc_X12_roleOf_56 at h
  refine tq_g_iinc (i := 3) (fun v101 => [.ref 51, .int a1, .int a2, .int v101, .null]) (by decide +kernel) rfl (1 : Int32) kc_1 (fun _ => rfl) (fun v101 ev101 => ?_)
  replace h := h v101 ev101
  refine tq_s_goto (off := -45) (tgt := 14) (by decide +kernel) (by decide +kernel) ?_
  exact hB14 _ _ h
def wb_X12_roleOf_14 (B14 : Int32 → tq_S → Prop) (Q : tq_O → tq_S → Prop) (a1 : Int32) (a2 : Int32) (a3 : Int32) (z : tq_S) : Prop := (((4 : Int32) ≤ a3 → Q (.inl (some (.int (45 : Int32)))) z) ∧ (¬ (4 : Int32) ≤ a3 → wm_X12_beside a1 a3 z (tq_wi fun r102 z101 => ((r102 = (-1 : Int32) → wc_X12_roleOf_56 B14 Q a1 a2 a3 z101) ∧ (¬ r102 = (-1 : Int32) → vp_in r102 64 ∧ (((tq_ai z101 52 (Int32.toNatClampNeg r102)) = 0 → wc_X12_roleOf_56 B14 Q a1 a2 a3 z101) ∧ (¬ (tq_ai z101 52 (Int32.toNatClampNeg r102)) = 0 → wm_X12_most r102 z101 (tq_wi fun r104 z103 => ((¬ r104 = a2 → wc_X12_roleOf_56 B14 Q a1 a2 a3 z103) ∧ (r104 = a2 → Q (.inl (some (.int (110 : Int32)))) z103))))))))))
def wc_X12_roleOf_14 (Q : tq_O → tq_S → Prop) (a1 : Int32) (a2 : Int32) (a3 : Int32) (z : tq_S) : Prop := tq_lp (σ := Int32 × tq_S) (fun B s => wb_X12_roleOf_14 (fun b3 z => B (b3, z)) Q a1 a2 s.1 s.2) (a3, z)
theorem ab_X12_roleOf_14 {K : Nat × (Nat → Int32)} {x : Nat} {Q : tq_O → tq_S → Prop} {B14 : Int32 → tq_S → Prop} {a1 : Int32} {a2 : Int32} {a3 : Int32} {z : tq_S} (hB14 : ∀ (b3 : Int32) (z : tq_S), B14 b3 z → tq_T K 43 x mm_X12_roleOf 14 [.ref 51, .int a1, .int a2, .int b3, .null] [] z Q) (h : wb_X12_roleOf_14 B14 Q a1 a2 a3 z) : tq_T K 43 x mm_X12_roleOf 14 [.ref 51, .int a1, .int a2, .int a3, .null] [] z Q := by
  unfold wb_X12_roleOf_14 at h
  refine tq_s_iload_n (kk := 3) (by decide +kernel) rfl ?_
  refine tq_k_ic (n := 4) (v := (4 : Int32)) (by decide +kernel) kc_4 ?_
  refine tq_icmp_ge (off := 46) (tgt := 62) (by decide +kernel) (by decide +kernel) (fun hc => ?_) (fun hc => ?_)
  · replace h := h.1 hc
    refine tq_k_bi (n := 45) (v := (45 : Int32)) (by decide +kernel) kb_45 ?_
    exact tq_ret_z (st := []) (ty := .char) (by decide +kernel) (by decide +kernel) rfl h
  · replace h := h.2 hc
    refine tq_s_aload_n (kk := 0) (by decide +kernel) rfl ?_
    refine tq_s_iload_n (kk := 1) (by decide +kernel) rfl ?_
    refine tq_s_iload_n (kk := 3) (by decide +kernel) rfl ?_
    refine tq_callV (as := [.int a1, .int a3]) (st := []) (d1 := 1) (x1 := 0) (x2 := x) (by decide +kernel) ln_12_184 mf_X12_beside rfl sh_51 rfl (by decide) np_X12_beside rfl (Nat.le_of_ble_eq_true rfl) (by decide) (Nat.zero_add _).symm (tq_M_mono (am_X12_beside h) ?_)
    refine tq_wi_e (fun r102 z101 h => ?_)
    refine tq_s_istore (i := 4) (L9 := [.ref 51, .int a1, .int a2, .int a3, .int r102]) (by decide +kernel) (by decide) rfl ?_
    refine tq_s_iload (i := 4) (by decide +kernel) rfl ?_
    refine tq_k_ic (n := -1) (v := (-1 : Int32)) (by decide +kernel) kc_m1 ?_
    refine tq_icmp_eq (off := 26) (tgt := 56) (by decide +kernel) (by decide +kernel) (fun hc => ?_) (fun hc => ?_)
    · replace h := h.1 hc
      exact tq_to (tq_lk1 (tq_lk1 (tq_lk1 (tq_lk1 (tq_ld1 tq_l0))))) (ac_X12_roleOf_56 hB14 h)
    · replace h := h.2 hc
      refine tq_s_aload_n (kk := 0) (by decide +kernel) rfl ?_
      refine fg_12_16_51 rfl (by decide +kernel) ?_
      refine tq_s_iload (i := 4) (by decide +kernel) rfl ?_
      refine tq_s_zald (by decide +kernel) sh_52 h.1 ?_
      replace h := h.2
      refine tq_if_eq (off := 16) (tgt := 56) (by decide +kernel) (by decide +kernel) (fun hc => ?_) (fun hc => ?_)
      · replace h := h.1 hc
        exact tq_to (tq_lk1 (tq_lk1 (tq_lk1 (tq_lk1 (tq_ld1 tq_l0))))) (ac_X12_roleOf_56 hB14 h)
      · replace h := h.2 hc
        refine tq_s_aload_n (kk := 0) (by decide +kernel) rfl ?_
        refine tq_s_iload (i := 4) (by decide +kernel) rfl ?_
        refine tq_callV (as := [.int r102]) (st := []) (d1 := 42) (x1 := 0) (x2 := x) (by decide +kernel) ln_12_296 mf_X12_most rfl sh_51 rfl (by decide) np_X12_most rfl (Nat.le_of_ble_eq_true rfl) (by decide) (Nat.zero_add _).symm (tq_M_mono (am_X12_most h) ?_)
        refine tq_wi_e (fun r104 z103 h => ?_)
        refine tq_s_iload_n (kk := 2) (by decide +kernel) rfl ?_
        refine tq_icmp_ne (off := 6) (tgt := 56) (by decide +kernel) (by decide +kernel) (fun hc => ?_) (fun hc => ?_)
        · replace h := h.1 hc
          exact tq_to (tq_lk1 (tq_lk1 (tq_lk1 (tq_lk1 (tq_ld1 tq_l0))))) (ac_X12_roleOf_56 hB14 h)
        · replace h := h.2 hc
          refine tq_k_bi (n := 110) (v := (110 : Int32)) (by decide +kernel) kb_110 ?_
          exact tq_ret_z (st := []) (ty := .char) (by decide +kernel) (by decide +kernel) rfl h
theorem ac_X12_roleOf_14 {K : Nat × (Nat → Int32)} {x : Nat} {Q : tq_O → tq_S → Prop} {a1 : Int32} {a2 : Int32} {a3 : Int32} {z : tq_S} (h : wc_X12_roleOf_14 Q a1 a2 a3 z) : tq_T K 43 x mm_X12_roleOf 14 [.ref 51, .int a1, .int a2, .int a3, .null] [] z Q :=
  tq_lp_T (σ := Int32 × tq_S) (s := (a3, z)) (G := fun s => tq_T K 43 x mm_X12_roleOf 14 [.ref 51, .int a1, .int a2, .int s.1, .null] [] s.2 Q) (fun B hB s h => ab_X12_roleOf_14 (fun b3 z h => hB (b3, z) h) h) h
def wm_X12_roleOf (a1 : Int32) (a2 : Int32) (z : tq_S) (Q : tq_O → tq_S → Prop) : Prop := wm_X12_most a1 z (tq_wi fun r2 z1 => ((¬ r2 = a2 → wc_X12_roleOf_14 Q a1 a2 (0 : Int32) z1) ∧ (r2 = a2 → Q (.inl (some (.int (102 : Int32)))) z1)))
theorem am_X12_roleOf {K : Nat × (Nat → Int32)} {x : Nat} {z : tq_S} {Q : tq_O → tq_S → Prop} {a1 : Int32} {a2 : Int32} (h : wm_X12_roleOf a1 a2 z Q) : tq_M K 43 x mm_X12_roleOf [.ref 51, .int a1, .int a2] z Q := by
  unfold wm_X12_roleOf at h
  refine tq_enter (L := [.ref 51, .int a1, .int a2, .null, .null]) mf_X12_roleOf.1 rfl rfl (Nat.le_of_ble_eq_true rfl) ?_
  refine tq_s_aload_n (kk := 0) (by decide +kernel) rfl ?_
  refine tq_s_iload_n (kk := 1) (by decide +kernel) rfl ?_
  refine tq_callV (as := [.int a1]) (st := []) (d1 := 42) (x1 := 0) (x2 := x) (by decide +kernel) ln_12_296 mf_X12_most rfl sh_51 rfl (by decide) np_X12_most rfl (Nat.le_of_ble_eq_true rfl) (by decide) (Nat.zero_add _).symm (tq_M_mono (am_X12_most h) ?_)
  refine tq_wi_e (fun r2 z1 h => ?_)
  refine tq_s_iload_n (kk := 2) (by decide +kernel) rfl ?_
  refine tq_icmp_ne (off := 6) (tgt := 12) (by decide +kernel) (by decide +kernel) (fun hc => ?_) (fun hc => ?_)
  · replace h := h.1 hc
    refine tq_k_ic (n := 0) (v := (0 : Int32)) (by decide +kernel) kc_0 ?_
    refine tq_s_istore_n (kk := 3) (L9 := [.ref 51, .int a1, .int a2, .int (0 : Int32), .null]) (by decide +kernel) (by decide) rfl ?_
    exact ac_X12_roleOf_14 h
  · replace h := h.2 hc
    refine tq_k_bi (n := 102) (v := (102 : Int32)) (by decide +kernel) kb_102 ?_
    exact tq_ret_z (st := []) (ty := .char) (by decide +kernel) (by decide +kernel) rfl h
def wc_X12_role_15 (Q : tq_O → tq_S → Prop) (a1 : Int32) (a2 : Int32) (s0 : Int32) (z : tq_S) : Prop := wm_X12_isThrown s0 (1 : Int32) z (tq_wi fun r102 z101 => ((r102 = 0 → wm_X12_most (-1 : Int32) z101 (tq_wi fun r104 z103 => wm_X12_roleOf (((8 : Int32) * a2) + a1) r104 z103 (tq_wi fun r106 z105 => tq_nf 2 r106 ∧ Q (.inl (some (.int r106))) z105))) ∧ (¬ r102 = 0 → Q (.inl (some (.int (45 : Int32)))) z101)))
theorem ac_X12_role_15 {K : Nat × (Nat → Int32)} {x : Nat} {Q : tq_O → tq_S → Prop} {a1 : Int32} {a2 : Int32} {s0 : Int32} {z : tq_S} (h : wc_X12_role_15 Q a1 a2 s0 z) : tq_T K 44 x mm_X12_role 15 [.ref 51, .int a1, .int a2] [.int s0, .ref 51] z Q := by
  unfold wc_X12_role_15 at h
  refine tq_k_ic (n := 1) (v := (1 : Int32)) (by decide +kernel) kc_1 ?_
  refine tq_callV (as := [.int s0, .int (1 : Int32)]) (st := []) (d1 := 0) (x1 := 0) (x2 := x) (by decide +kernel) ln_12_152 mf_X12_isThrown rfl sh_51 rfl (by decide) np_X12_isThrown rfl (Nat.le_of_ble_eq_true rfl) (by decide) (Nat.zero_add _).symm (tq_M_mono (am_X12_isThrown h) ?_)
  refine tq_wi_e (fun r102 z101 h => ?_)
  refine tq_if_eq (off := 8) (tgt := 27) (by decide +kernel) (by decide +kernel) (fun hc => ?_) (fun hc => ?_)
  · replace h := h.1 hc
    refine tq_s_aload_n (kk := 0) (by decide +kernel) rfl ?_
    refine tq_k_bi (n := 8) (v := (8 : Int32)) (by decide +kernel) kb_8 ?_
    refine tq_s_iload_n (kk := 2) (by decide +kernel) rfl ?_
    refine tq_s_imul (by decide +kernel) ?_
    refine tq_s_iload_n (kk := 1) (by decide +kernel) rfl ?_
    refine tq_s_iadd (by decide +kernel) ?_
    refine tq_s_aload_n (kk := 0) (by decide +kernel) rfl ?_
    refine tq_k_ic (n := -1) (v := (-1 : Int32)) (by decide +kernel) kc_m1 ?_
    refine tq_callV (as := [.int (-1 : Int32)]) (st := [.int (((8 : Int32) * a2) + a1), .ref 51]) (d1 := 42) (x1 := 0) (x2 := x) (by decide +kernel) ln_12_296 mf_X12_most rfl sh_51 rfl (by decide) np_X12_most rfl (Nat.le_of_ble_eq_true rfl) (by decide) (Nat.zero_add _).symm (tq_M_mono (am_X12_most h) ?_)
    refine tq_wi_e (fun r104 z103 h => ?_)
    refine tq_callV (as := [.int (((8 : Int32) * a2) + a1), .int r104]) (st := []) (d1 := 43) (x1 := 0) (x2 := x) (by decide +kernel) ln_12_300 mf_X12_roleOf rfl sh_51 rfl (by decide) np_X12_roleOf rfl (Nat.le_of_ble_eq_true rfl) (by decide) (Nat.zero_add _).symm (tq_M_mono (am_X12_roleOf h) ?_)
    refine tq_wi_e (fun r106 z105 h => ?_)
    exact tq_ret_z (st := []) (ty := .char) (by decide +kernel) h.1.1 rfl h.2
  · replace h := h.2 hc
    refine tq_k_bi (n := 45) (v := (45 : Int32)) (by decide +kernel) kb_45 ?_
    refine tq_s_goto (off := 18) (tgt := 42) (by decide +kernel) (by decide +kernel) ?_
    exact tq_ret_z (st := []) (ty := .char) (by decide +kernel) (by decide +kernel) rfl h
def wm_X12_role (a1 : Int32) (a2 : Int32) (z : tq_S) (Q : tq_O → tq_S → Prop) : Prop := wm_X12_isCell a1 a2 z (tq_wi fun r2 z1 => ((¬ r2 = 0 → wc_X12_role_15 Q a1 a2 (0 : Int32) z1) ∧ (r2 = 0 → wc_X12_role_15 Q a1 a2 (1 : Int32) z1)))
theorem am_X12_role {K : Nat × (Nat → Int32)} {x : Nat} {z : tq_S} {Q : tq_O → tq_S → Prop} {a1 : Int32} {a2 : Int32} (h : wm_X12_role a1 a2 z Q) : tq_M K 44 x mm_X12_role [.ref 51, .int a1, .int a2] z Q := by
  unfold wm_X12_role at h
  refine tq_enter (L := [.ref 51, .int a1, .int a2]) mf_X12_role.1 rfl rfl (Nat.le_of_ble_eq_true rfl) ?_
  refine tq_s_aload_n (kk := 0) (by decide +kernel) rfl ?_
  refine tq_s_aload_n (kk := 0) (by decide +kernel) rfl ?_
  refine tq_s_iload_n (kk := 1) (by decide +kernel) rfl ?_
  refine tq_s_iload_n (kk := 2) (by decide +kernel) rfl ?_
  refine tq_callV (as := [.int a1, .int a2]) (st := [.ref 51]) (d1 := 1) (x1 := 0) (x2 := x) (by decide +kernel) ln_12_164 mf_X12_isCell rfl sh_51 rfl (by decide) np_X12_isCell rfl (Nat.le_of_ble_eq_true rfl) (by decide) (Nat.zero_add _).symm (tq_M_mono (am_X12_isCell h) ?_)
  refine tq_wi_e (fun r2 z1 h => ?_)
  refine tq_if_ne (off := 7) (tgt := 14) (by decide +kernel) (by decide +kernel) (fun hc => ?_) (fun hc => ?_)
  · replace h := h.1 hc
    refine tq_k_ic (n := 0) (v := (0 : Int32)) (by decide +kernel) kc_0 ?_
    exact ac_X12_role_15 h
  · replace h := h.2 hc
    refine tq_k_ic (n := 1) (v := (1 : Int32)) (by decide +kernel) kc_1 ?_
    refine tq_s_goto (off := 4) (tgt := 15) (by decide +kernel) (by decide +kernel) ?_
    exact ac_X12_role_15 h
def wc_X12_roles_78 (B44 : Int32 → Int32 → tq_S → Prop) (Q : tq_O → tq_S → Prop) (a1 : Int32) (a2 : Int32) (a4 : Int32) (s0 : Int32) (s1 : Int32) (z : tq_S) : Prop := ∀ v101 : Int32, v101 = (s1 + s0) → ∀ v102 : Int32, v102 = a4 + (1 : Int32) → B44 v101 v102 z
theorem ac_X12_roles_78 {K : Nat × (Nat → Int32)} {x : Nat} {Q : tq_O → tq_S → Prop} {B44 : Int32 → Int32 → tq_S → Prop} {a1 : Int32} {a2 : Int32} {a4 : Int32} {s0 : Int32} {s1 : Int32} {z : tq_S} (hB44 : ∀ (b3 : Int32) (b4 : Int32) (z : tq_S), B44 b3 b4 z → tq_T K 44 x mm_X12_roles 44 [.ref 51, .int a1, .int a2, .int b3, .int b4] [] z Q) (h : wc_X12_roles_78 B44 Q a1 a2 a4 s0 s1 z) : tq_T K 44 x mm_X12_roles 78 [.ref 51, .int a1, .int a2, .null, .int a4] [.int s0, .int s1] z Q := by
  unfold wc_X12_roles_78 at h
  refine tq_s_iadd (by decide +kernel) ?_
  refine tq_g_istore_n (kk := 3) (fun v101 => [.ref 51, .int a1, .int a2, .int v101, .int a4]) (by decide +kernel) (by decide) (fun _ => rfl) (fun v101 ev101 => ?_)
  replace h := h v101 ev101
  refine tq_g_iinc (i := 4) (fun v102 => [.ref 51, .int a1, .int a2, .int v101, .int v102]) (by decide +kernel) rfl (1 : Int32) kc_1 (fun _ => rfl) (fun v102 ev102 => ?_)
  replace h := h v102 ev102
  refine tq_s_goto (off := -39) (tgt := 44) (by decide +kernel) (by decide +kernel) ?_
  exact hB44 _ _ _ h
def wc_X12_roles_77 (B44 : Int32 → Int32 → tq_S → Prop) (Q : tq_O → tq_S → Prop) (a1 : Int32) (a2 : Int32) (a4 : Int32) (s0 : Int32) (z : tq_S) : Prop := wc_X12_roles_78 B44 Q a1 a2 a4 (0 : Int32) s0 z
theorem ac_X12_roles_77 {K : Nat × (Nat → Int32)} {x : Nat} {Q : tq_O → tq_S → Prop} {B44 : Int32 → Int32 → tq_S → Prop} {a1 : Int32} {a2 : Int32} {a4 : Int32} {s0 : Int32} {z : tq_S} (hB44 : ∀ (b3 : Int32) (b4 : Int32) (z : tq_S), B44 b3 b4 z → tq_T K 44 x mm_X12_roles 44 [.ref 51, .int a1, .int a2, .int b3, .int b4] [] z Q) (h : wc_X12_roles_77 B44 Q a1 a2 a4 s0 z) : tq_T K 44 x mm_X12_roles 77 [.ref 51, .int a1, .int a2, .null, .int a4] [.int s0] z Q := by
  unfold wc_X12_roles_77 at h
  refine tq_k_ic (n := 0) (v := (0 : Int32)) (by decide +kernel) kc_0 ?_
  exact ac_X12_roles_78 hB44 h
def wb_X12_roles_44 (B44 : Int32 → Int32 → tq_S → Prop) (Q : tq_O → tq_S → Prop) (a1 : Int32) (a2 : Int32) (a3 : Int32) (a4 : Int32) (z : tq_S) : Prop := (((64 : Int32) ≤ a4 → Q (.inl (some (.int a3))) z) ∧ (¬ (64 : Int32) ≤ a4 → vp_in a4 64 ∧ (((tq_ai z 52 (Int32.toNatClampNeg a4)) = 0 → wc_X12_roles_77 B44 Q a1 a2 a4 a3 z) ∧ (¬ (tq_ai z 52 (Int32.toNatClampNeg a4)) = 0 → wm_X12_roleOf a4 a2 z (tq_wi fun r102 z101 => ((¬ r102 = a1 → wc_X12_roles_77 B44 Q a1 a2 a4 a3 z101) ∧ (r102 = a1 → wc_X12_roles_78 B44 Q a1 a2 a4 (1 : Int32) a3 z101)))))))
def wc_X12_roles_44 (Q : tq_O → tq_S → Prop) (a1 : Int32) (a2 : Int32) (a3 : Int32) (a4 : Int32) (z : tq_S) : Prop := tq_lp (σ := Int32 × Int32 × tq_S) (fun B s => wb_X12_roles_44 (fun b3 b4 z => B (b3, b4, z)) Q a1 a2 s.1 s.2.1 s.2.2) (a3, a4, z)
theorem ab_X12_roles_44 {K : Nat × (Nat → Int32)} {x : Nat} {Q : tq_O → tq_S → Prop} {B44 : Int32 → Int32 → tq_S → Prop} {a1 : Int32} {a2 : Int32} {a3 : Int32} {a4 : Int32} {z : tq_S} (hB44 : ∀ (b3 : Int32) (b4 : Int32) (z : tq_S), B44 b3 b4 z → tq_T K 44 x mm_X12_roles 44 [.ref 51, .int a1, .int a2, .int b3, .int b4] [] z Q) (h : wb_X12_roles_44 B44 Q a1 a2 a3 a4 z) : tq_T K 44 x mm_X12_roles 44 [.ref 51, .int a1, .int a2, .int a3, .int a4] [] z Q := by
  unfold wb_X12_roles_44 at h
  refine tq_s_iload (i := 4) (by decide +kernel) rfl ?_
  refine tq_k_bi (n := 64) (v := (64 : Int32)) (by decide +kernel) kb_64 ?_
  refine tq_icmp_ge (off := 38) (tgt := 86) (by decide +kernel) (by decide +kernel) (fun hc => ?_) (fun hc => ?_)
  · replace h := h.1 hc
    refine tq_s_iload_n (kk := 3) (by decide +kernel) rfl ?_
    exact tq_ret_i (st := []) (by decide +kernel) rfl h
  · replace h := h.2 hc
    refine tq_s_iload_n (kk := 3) (by decide +kernel) rfl ?_
    refine tq_s_aload_n (kk := 0) (by decide +kernel) rfl ?_
    refine fg_12_16_51 rfl (by decide +kernel) ?_
    refine tq_s_iload (i := 4) (by decide +kernel) rfl ?_
    refine tq_s_zald (by decide +kernel) sh_52 h.1 ?_
    replace h := h.2
    refine tq_if_eq (off := 18) (tgt := 77) (by decide +kernel) (by decide +kernel) (fun hc => ?_) (fun hc => ?_)
    · replace h := h.1 hc
      exact tq_to (tq_lk1 (tq_lk1 (tq_lk1 (tq_ld1 (tq_lk1 tq_l0))))) (ac_X12_roles_77 hB44 h)
    · replace h := h.2 hc
      refine tq_s_aload_n (kk := 0) (by decide +kernel) rfl ?_
      refine tq_s_iload (i := 4) (by decide +kernel) rfl ?_
      refine tq_s_iload_n (kk := 2) (by decide +kernel) rfl ?_
      refine tq_callV (as := [.int a4, .int a2]) (st := [.int a3]) (d1 := 43) (x1 := 0) (x2 := x) (by decide +kernel) ln_12_300 mf_X12_roleOf rfl sh_51 rfl (by decide) np_X12_roleOf rfl (Nat.le_of_ble_eq_true rfl) (by decide) (Nat.zero_add _).symm (tq_M_mono (am_X12_roleOf h) ?_)
      refine tq_wi_e (fun r102 z101 h => ?_)
      refine tq_s_iload_n (kk := 1) (by decide +kernel) rfl ?_
      refine tq_icmp_ne (off := 7) (tgt := 77) (by decide +kernel) (by decide +kernel) (fun hc => ?_) (fun hc => ?_)
      · replace h := h.1 hc
        exact tq_to (tq_lk1 (tq_lk1 (tq_lk1 (tq_ld1 (tq_lk1 tq_l0))))) (ac_X12_roles_77 hB44 h)
      · replace h := h.2 hc
        refine tq_k_ic (n := 1) (v := (1 : Int32)) (by decide +kernel) kc_1 ?_
        refine tq_s_goto (off := 4) (tgt := 78) (by decide +kernel) (by decide +kernel) ?_
        exact tq_to (tq_lk1 (tq_lk1 (tq_lk1 (tq_ld1 (tq_lk1 tq_l0))))) (ac_X12_roles_78 hB44 h)
theorem ac_X12_roles_44 {K : Nat × (Nat → Int32)} {x : Nat} {Q : tq_O → tq_S → Prop} {a1 : Int32} {a2 : Int32} {a3 : Int32} {a4 : Int32} {z : tq_S} (h : wc_X12_roles_44 Q a1 a2 a3 a4 z) : tq_T K 44 x mm_X12_roles 44 [.ref 51, .int a1, .int a2, .int a3, .int a4] [] z Q :=
  tq_lp_T (σ := Int32 × Int32 × tq_S) (s := (a3, a4, z)) (G := fun s => tq_T K 44 x mm_X12_roles 44 [.ref 51, .int a1, .int a2, .int s.1, .int s.2.1] [] s.2.2 Q) (fun B hB s h => ab_X12_roles_44 (fun b3 b4 z h => hB (b3, b4, z) h) h) h
def wc_X12_roles_24 (Q : tq_O → tq_S → Prop) (a1 : Int32) (s0 : Int32) (z : tq_S) : Prop := wm_X12_isThrown s0 (1 : Int32) z (tq_wi fun r102 z101 => ((r102 = 0 → wm_X12_most (-1 : Int32) z101 (tq_wi fun r104 z103 => wc_X12_roles_44 Q a1 r104 (0 : Int32) (0 : Int32) z103)) ∧ (¬ r102 = 0 → Q (.inl (some (.int (0 : Int32)))) z101)))
theorem ac_X12_roles_24 {K : Nat × (Nat → Int32)} {x : Nat} {Q : tq_O → tq_S → Prop} {a1 : Int32} {s0 : Int32} {z : tq_S} (h : wc_X12_roles_24 Q a1 s0 z) : tq_T K 44 x mm_X12_roles 24 [.ref 51, .int a1, .null, .null, .null] [.int s0, .ref 51] z Q := by
  unfold wc_X12_roles_24 at h
  refine tq_k_ic (n := 1) (v := (1 : Int32)) (by decide +kernel) kc_1 ?_
  refine tq_callV (as := [.int s0, .int (1 : Int32)]) (st := []) (d1 := 0) (x1 := 0) (x2 := x) (by decide +kernel) ln_12_152 mf_X12_isThrown rfl sh_51 rfl (by decide) np_X12_isThrown rfl (Nat.le_of_ble_eq_true rfl) (by decide) (Nat.zero_add _).symm (tq_M_mono (am_X12_isThrown h) ?_)
  refine tq_wi_e (fun r102 z101 h => ?_)
  refine tq_if_eq (off := 5) (tgt := 33) (by decide +kernel) (by decide +kernel) (fun hc => ?_) (fun hc => ?_)
  · replace h := h.1 hc
    refine tq_s_aload_n (kk := 0) (by decide +kernel) rfl ?_
    refine tq_k_ic (n := -1) (v := (-1 : Int32)) (by decide +kernel) kc_m1 ?_
    refine tq_callV (as := [.int (-1 : Int32)]) (st := []) (d1 := 42) (x1 := 0) (x2 := x) (by decide +kernel) ln_12_296 mf_X12_most rfl sh_51 rfl (by decide) np_X12_most rfl (Nat.le_of_ble_eq_true rfl) (by decide) (Nat.zero_add _).symm (tq_M_mono (am_X12_most h) ?_)
    refine tq_wi_e (fun r104 z103 h => ?_)
    refine tq_s_istore_n (kk := 2) (L9 := [.ref 51, .int a1, .int r104, .null, .null]) (by decide +kernel) (by decide) rfl ?_
    refine tq_k_ic (n := 0) (v := (0 : Int32)) (by decide +kernel) kc_0 ?_
    refine tq_s_istore_n (kk := 3) (L9 := [.ref 51, .int a1, .int r104, .int (0 : Int32), .null]) (by decide +kernel) (by decide) rfl ?_
    refine tq_k_ic (n := 0) (v := (0 : Int32)) (by decide +kernel) kc_0 ?_
    refine tq_s_istore (i := 4) (L9 := [.ref 51, .int a1, .int r104, .int (0 : Int32), .int (0 : Int32)]) (by decide +kernel) (by decide) rfl ?_
    exact ac_X12_roles_44 h
  · replace h := h.2 hc
    refine tq_k_ic (n := 0) (v := (0 : Int32)) (by decide +kernel) kc_0 ?_
    exact tq_ret_i (st := []) (by decide +kernel) rfl h
def wc_X12_roles_23 (Q : tq_O → tq_S → Prop) (a1 : Int32) (z : tq_S) : Prop := wc_X12_roles_24 Q a1 (0 : Int32) z
theorem ac_X12_roles_23 {K : Nat × (Nat → Int32)} {x : Nat} {Q : tq_O → tq_S → Prop} {a1 : Int32} {z : tq_S} (h : wc_X12_roles_23 Q a1 z) : tq_T K 44 x mm_X12_roles 23 [.ref 51, .int a1, .null, .null, .null] [.ref 51] z Q := by
  unfold wc_X12_roles_23 at h
  refine tq_k_ic (n := 0) (v := (0 : Int32)) (by decide +kernel) kc_0 ?_
  exact ac_X12_roles_24 h
def wm_X12_roles (a1 : Int32) (z : tq_S) (Q : tq_O → tq_S → Prop) : Prop := ((a1 = (102 : Int32) → wc_X12_roles_23 Q a1 z) ∧ (¬ a1 = (102 : Int32) → ((a1 = (110 : Int32) → wc_X12_roles_23 Q a1 z) ∧ (¬ a1 = (110 : Int32) → ((a1 = (45 : Int32) → wc_X12_roles_23 Q a1 z) ∧ (¬ a1 = (45 : Int32) → wc_X12_roles_24 Q a1 (1 : Int32) z))))))
theorem am_X12_roles {K : Nat × (Nat → Int32)} {x : Nat} {z : tq_S} {Q : tq_O → tq_S → Prop} {a1 : Int32} (h : wm_X12_roles a1 z Q) : tq_M K 44 x mm_X12_roles [.ref 51, .int a1] z Q := by
  unfold wm_X12_roles at h
  refine tq_enter (L := [.ref 51, .int a1, .null, .null, .null]) mf_X12_roles.1 rfl rfl (Nat.le_of_ble_eq_true rfl) ?_
  refine tq_s_aload_n (kk := 0) (by decide +kernel) rfl ?_
  refine tq_s_iload_n (kk := 1) (by decide +kernel) rfl ?_
  refine tq_k_bi (n := 102) (v := (102 : Int32)) (by decide +kernel) kb_102 ?_
  refine tq_icmp_eq (off := 19) (tgt := 23) (by decide +kernel) (by decide +kernel) (fun hc => ?_) (fun hc => ?_)
  · replace h := h.1 hc
    exact ac_X12_roles_23 h
  · replace h := h.2 hc
    refine tq_s_iload_n (kk := 1) (by decide +kernel) rfl ?_
    refine tq_k_bi (n := 110) (v := (110 : Int32)) (by decide +kernel) kb_110 ?_
    refine tq_icmp_eq (off := 13) (tgt := 23) (by decide +kernel) (by decide +kernel) (fun hc => ?_) (fun hc => ?_)
    · replace h := h.1 hc
      exact ac_X12_roles_23 h
    · replace h := h.2 hc
      refine tq_s_iload_n (kk := 1) (by decide +kernel) rfl ?_
      refine tq_k_bi (n := 45) (v := (45 : Int32)) (by decide +kernel) kb_45 ?_
      refine tq_icmp_eq (off := 7) (tgt := 23) (by decide +kernel) (by decide +kernel) (fun hc => ?_) (fun hc => ?_)
      · replace h := h.1 hc
        exact ac_X12_roles_23 h
      · replace h := h.2 hc
        refine tq_k_ic (n := 1) (v := (1 : Int32)) (by decide +kernel) kc_1 ?_
        refine tq_s_goto (off := 4) (tgt := 24) (by decide +kernel) (by decide +kernel) ?_
        exact ac_X12_roles_24 h
def wb_X12_bits_4 (B4 : Int32 → Int64 → tq_S → Prop) (Q : tq_O → tq_S → Prop) (a2 : Int32) (a3 : Int64) (z : tq_S) : Prop := ((a3 = (0 : Int64) → Q (.inl (some (.int a2))) z) ∧ (¬ a3 = (0 : Int64) → ∀ v101 : Int32, v101 = a2 + (1 : Int32) → ∀ v102 : Int64, v102 = (a3 &&& (a3 - (1 : Int64))) → B4 v101 v102 z))
def wc_X12_bits_4 (Q : tq_O → tq_S → Prop) (a2 : Int32) (a3 : Int64) (z : tq_S) : Prop := tq_lp (σ := Int32 × Int64 × tq_S) (fun B s => wb_X12_bits_4 (fun b2 b3 z => B (b2, b3, z)) Q s.1 s.2.1 s.2.2) (a2, a3, z)
theorem ab_X12_bits_4 {K : Nat × (Nat → Int32)} {x : Nat} {Q : tq_O → tq_S → Prop} {B4 : Int32 → Int64 → tq_S → Prop} {a2 : Int32} {a3 : Int64} {z : tq_S} (hB4 : ∀ (b2 : Int32) (b3 : Int64) (z : tq_S), B4 b2 b3 z → tq_T K 0 x mm_X12_bits 4 [.null, .null, .int b2, .long b3, .null] [] z Q) (h : wb_X12_bits_4 B4 Q a2 a3 z) : tq_T K 0 x mm_X12_bits 4 [.null, .null, .int a2, .long a3, .null] [] z Q := by
  unfold wb_X12_bits_4 at h
  refine tq_s_lload_n (kk := 3) (by decide +kernel) rfl ?_
  refine tq_k_lc (n := 0) (v := (0 : Int64)) (by decide +kernel) (by decide +kernel) ?_
  refine tq_lcmp_eq (off := 15) (tgt := 22) (by decide +kernel) (by decide +kernel) (by decide +kernel) (fun hc => ?_) (fun hc => ?_)
  · replace h := h.1 hc
    refine tq_s_iload_n (kk := 2) (by decide +kernel) rfl ?_
    exact tq_ret_i (st := []) (by decide +kernel) rfl h
  · replace h := h.2 hc
    refine tq_g_iinc (i := 2) (fun v101 => [.null, .null, .int v101, .long a3, .null]) (by decide +kernel) rfl (1 : Int32) kc_1 (fun _ => rfl) (fun v101 ev101 => ?_)
    replace h := h v101 ev101
    refine tq_s_lload_n (kk := 3) (by decide +kernel) rfl ?_
    refine tq_s_lload_n (kk := 3) (by decide +kernel) rfl ?_
    refine tq_k_lc (n := 1) (v := (1 : Int64)) (by decide +kernel) (by decide +kernel) ?_
    refine tq_s_lsub (by decide +kernel) ?_
    refine tq_s_land (by decide +kernel) ?_
    refine tq_g_lstore_n (kk := 3) (fun v102 => [.null, .null, .int v101, .long v102, .null]) (by decide +kernel) (by decide) (fun _ => rfl) (fun v102 ev102 => ?_)
    replace h := h v102 ev102
    refine tq_s_goto (off := -15) (tgt := 4) (by decide +kernel) (by decide +kernel) ?_
    exact hB4 _ _ _ h
theorem ac_X12_bits_4 {K : Nat × (Nat → Int32)} {x : Nat} {Q : tq_O → tq_S → Prop} {a2 : Int32} {a3 : Int64} {z : tq_S} (h : wc_X12_bits_4 Q a2 a3 z) : tq_T K 0 x mm_X12_bits 4 [.null, .null, .int a2, .long a3, .null] [] z Q :=
  tq_lp_T (σ := Int32 × Int64 × tq_S) (s := (a2, a3, z)) (G := fun s => tq_T K 0 x mm_X12_bits 4 [.null, .null, .int s.1, .long s.2.1, .null] [] s.2.2 Q) (fun B hB s h => ab_X12_bits_4 (fun b2 b3 z h => hB (b2, b3, z) h) h) h
def wm_X12_bits (a0 : Int64) (z : tq_S) (Q : tq_O → tq_S → Prop) : Prop := wc_X12_bits_4 Q (0 : Int32) a0 z
theorem am_X12_bits {K : Nat × (Nat → Int32)} {x : Nat} {z : tq_S} {Q : tq_O → tq_S → Prop} {a0 : Int64} (h : wm_X12_bits a0 z Q) : tq_M K 0 x mm_X12_bits [.long a0] z Q := by
  unfold wm_X12_bits at h
  refine tq_enter (L := [.long a0, .null, .null, .null, .null]) mf_X12_bits.1 rfl rfl (Nat.le_of_ble_eq_true rfl) ?_
  refine tq_k_ic (n := 0) (v := (0 : Int32)) (by decide +kernel) kc_0 ?_
  refine tq_s_istore_n (kk := 2) (L9 := [.long a0, .null, .int (0 : Int32), .null, .null]) (by decide +kernel) (by decide) rfl ?_
  refine tq_s_lload_n (kk := 0) (by decide +kernel) rfl ?_
  refine tq_s_lstore_n (kk := 3) (L9 := [.long a0, .null, .int (0 : Int32), .long a0, .null]) (by decide +kernel) (by decide) rfl ?_
  exact tq_to (tq_ld1 (tq_lk1 (tq_lk1 (tq_lk1 (tq_lk1 tq_l0))))) (ac_X12_bits_4 h)
def wc_X12_pieceCell_71 (Q : tq_O → tq_S → Prop) (a3 : Int64) (s0 : Int32) (z : tq_S) : Prop := wm_X12_isThrown s0 (2 : Int32) z (tq_wi fun r102 z101 => ((r102 = 0 → ∀ z103 : tq_S, z103 = tq_sfl z101 3289 ((tq_fl z101 3289) ||| a3) → wm_X12_bits (tq_fl z103 3289) z103 (tq_wi fun r105 z104 => Q (.inl (some (.int r105))) z104)) ∧ (¬ r102 = 0 → Q (.inl (some (.int (0 : Int32)))) z101)))
theorem ac_X12_pieceCell_71 {K : Nat × (Nat → Int32)} {x : Nat} {Q : tq_O → tq_S → Prop} {a3 : Int64} {s0 : Int32} {z : tq_S} (h : wc_X12_pieceCell_71 Q a3 s0 z) : tq_T K 1 x mm_X12_pieceCell 71 [.ref 51, .null, .null, .long a3, .null] [.int s0, .ref 51] z Q := by
  unfold wc_X12_pieceCell_71 at h
  refine tq_k_ic (n := 2) (v := (2 : Int32)) (by decide +kernel) kc_2 ?_
  refine tq_callV (as := [.int s0, .int (2 : Int32)]) (st := []) (d1 := 0) (x1 := 0) (x2 := x) (by decide +kernel) ln_12_152 mf_X12_isThrown rfl sh_51 rfl (by decide) np_X12_isThrown rfl (Nat.le_of_ble_eq_true rfl) (by decide) (Nat.zero_add _).symm (tq_M_mono (am_X12_isThrown h) ?_)
  refine tq_wi_e (fun r102 z101 h => ?_)
  refine tq_if_eq (off := 5) (tgt := 80) (by decide +kernel) (by decide +kernel) (fun hc => ?_) (fun hc => ?_)
  · replace h := h.1 hc
    refine tq_s_aload_n (kk := 0) (by decide +kernel) rfl ?_
    refine tq_s_dup (by decide +kernel) rfl ?_
    refine fg_12_304_51 rfl (by decide +kernel) ?_
    refine tq_s_lload_n (kk := 3) (by decide +kernel) rfl ?_
    refine tq_s_lor (by decide +kernel) ?_
    refine fp_12_304_51 rfl (by decide +kernel) (fun z103 ez103 => ?_)
    replace h := h z103 ez103
    refine tq_s_aload_n (kk := 0) (by decide +kernel) rfl ?_
    refine fg_12_304_51 rfl (by decide +kernel) ?_
    refine tq_callS (as := [.long (tq_fl z103 3289)]) (st := []) (d1 := 0) (x1 := 0) (x2 := x) (by decide +kernel) ln_12_308 mf_X12_bits rfl (by decide) np_X12_bits rfl (Nat.le_of_ble_eq_true rfl) (by decide) (Nat.zero_add _).symm (tq_M_mono (am_X12_bits h) ?_)
    refine tq_wi_e (fun r105 z104 h => ?_)
    exact tq_ret_i (st := []) (by decide +kernel) rfl h
  · replace h := h.2 hc
    refine tq_k_ic (n := 0) (v := (0 : Int32)) (by decide +kernel) kc_0 ?_
    exact tq_ret_i (st := []) (by decide +kernel) rfl h
def wc_X12_pieceCell_70 (Q : tq_O → tq_S → Prop) (a3 : Int64) (z : tq_S) : Prop := wc_X12_pieceCell_71 Q a3 (0 : Int32) z
theorem ac_X12_pieceCell_70 {K : Nat × (Nat → Int32)} {x : Nat} {Q : tq_O → tq_S → Prop} {a3 : Int64} {z : tq_S} (h : wc_X12_pieceCell_70 Q a3 z) : tq_T K 1 x mm_X12_pieceCell 70 [.ref 51, .null, .null, .long a3, .null] [.ref 51] z Q := by
  unfold wc_X12_pieceCell_70 at h
  refine tq_k_ic (n := 0) (v := (0 : Int32)) (by decide +kernel) kc_0 ?_
  exact ac_X12_pieceCell_71 h
def wc_X12_pieceCell_24 (Q : tq_O → tq_S → Prop) (a1 : Int32) (a2 : Int32) (s0 : Int32) (z : tq_S) : Prop := wm_X12_isThrown s0 (1 : Int32) z (tq_wi fun r102 z101 => ((r102 = 0 → ∀ v103 : Int64, v103 = ((1 : Int64) <<< ((Int32.toInt64 (((6 : Int32) * a2) + a1)) &&& 63)) → ((¬ ((tq_fl z101 3289) &&& v103) = (0 : Int64) → wc_X12_pieceCell_70 Q v103 z101) ∧ (((tq_fl z101 3289) &&& v103) = (0 : Int64) → wm_X12_bits (tq_fl z101 3289) z101 (tq_wi fun r105 z104 => ((¬ r105 = (6 : Int32) → wc_X12_pieceCell_70 Q v103 z104) ∧ (r105 = (6 : Int32) → wc_X12_pieceCell_71 Q v103 (1 : Int32) z104)))))) ∧ (¬ r102 = 0 → Q (.inl (some (.int (0 : Int32)))) z101)))
theorem ac_X12_pieceCell_24 {K : Nat × (Nat → Int32)} {x : Nat} {Q : tq_O → tq_S → Prop} {a1 : Int32} {a2 : Int32} {s0 : Int32} {z : tq_S} (h : wc_X12_pieceCell_24 Q a1 a2 s0 z) : tq_T K 1 x mm_X12_pieceCell 24 [.ref 51, .int a1, .int a2, .null, .null] [.int s0, .ref 51] z Q := by
  unfold wc_X12_pieceCell_24 at h
  refine tq_k_ic (n := 1) (v := (1 : Int32)) (by decide +kernel) kc_1 ?_
  refine tq_callV (as := [.int s0, .int (1 : Int32)]) (st := []) (d1 := 0) (x1 := 0) (x2 := x) (by decide +kernel) ln_12_152 mf_X12_isThrown rfl sh_51 rfl (by decide) np_X12_isThrown rfl (Nat.le_of_ble_eq_true rfl) (by decide) (Nat.zero_add _).symm (tq_M_mono (am_X12_isThrown h) ?_)
  refine tq_wi_e (fun r102 z101 h => ?_)
  refine tq_if_eq (off := 5) (tgt := 33) (by decide +kernel) (by decide +kernel) (fun hc => ?_) (fun hc => ?_)
  · replace h := h.1 hc
    refine tq_k_lc (n := 1) (v := (1 : Int64)) (by decide +kernel) (by decide +kernel) ?_
    refine tq_k_bi (n := 6) (v := (6 : Int32)) (by decide +kernel) kb_6 ?_
    refine tq_s_iload_n (kk := 2) (by decide +kernel) rfl ?_
    refine tq_s_imul (by decide +kernel) ?_
    refine tq_s_iload_n (kk := 1) (by decide +kernel) rfl ?_
    refine tq_s_iadd (by decide +kernel) ?_
    refine tq_s_lshl (by decide +kernel) ?_
    refine tq_g_lstore_n (kk := 3) (fun v103 => [.ref 51, .int a1, .int a2, .long v103, .null]) (by decide +kernel) (by decide) (fun _ => rfl) (fun v103 ev103 => ?_)
    replace h := h v103 ev103
    refine tq_s_aload_n (kk := 0) (by decide +kernel) rfl ?_
    refine tq_s_aload_n (kk := 0) (by decide +kernel) rfl ?_
    refine fg_12_304_51 rfl (by decide +kernel) ?_
    refine tq_s_lload_n (kk := 3) (by decide +kernel) rfl ?_
    refine tq_s_land (by decide +kernel) ?_
    refine tq_k_lc (n := 0) (v := (0 : Int64)) (by decide +kernel) (by decide +kernel) ?_
    refine tq_lcmp_ne (off := 19) (tgt := 70) (by decide +kernel) (by decide +kernel) (by decide +kernel) (fun hc => ?_) (fun hc => ?_)
    · replace h := h.1 hc
      exact tq_to (tq_lk1 (tq_ld1 (tq_ld1 (tq_lk1 (tq_lk1 tq_l0))))) (ac_X12_pieceCell_70 h)
    · replace h := h.2 hc
      refine tq_s_aload_n (kk := 0) (by decide +kernel) rfl ?_
      refine fg_12_304_51 rfl (by decide +kernel) ?_
      refine tq_callS (as := [.long (tq_fl z101 3289)]) (st := [.ref 51]) (d1 := 0) (x1 := 0) (x2 := x) (by decide +kernel) ln_12_308 mf_X12_bits rfl (by decide) np_X12_bits rfl (Nat.le_of_ble_eq_true rfl) (by decide) (Nat.zero_add _).symm (tq_M_mono (am_X12_bits h) ?_)
      refine tq_wi_e (fun r105 z104 h => ?_)
      refine tq_k_bi (n := 6) (v := (6 : Int32)) (by decide +kernel) kb_6 ?_
      refine tq_icmp_ne (off := 7) (tgt := 70) (by decide +kernel) (by decide +kernel) (fun hc => ?_) (fun hc => ?_)
      · replace h := h.1 hc
        exact tq_to (tq_lk1 (tq_ld1 (tq_ld1 (tq_lk1 (tq_lk1 tq_l0))))) (ac_X12_pieceCell_70 h)
      · replace h := h.2 hc
        refine tq_k_ic (n := 1) (v := (1 : Int32)) (by decide +kernel) kc_1 ?_
        refine tq_s_goto (off := 4) (tgt := 71) (by decide +kernel) (by decide +kernel) ?_
        exact tq_to (tq_lk1 (tq_ld1 (tq_ld1 (tq_lk1 (tq_lk1 tq_l0))))) (ac_X12_pieceCell_71 h)
  · replace h := h.2 hc
    refine tq_k_ic (n := 0) (v := (0 : Int32)) (by decide +kernel) kc_0 ?_
    exact tq_ret_i (st := []) (by decide +kernel) rfl h
def wc_X12_pieceCell_19 (Q : tq_O → tq_S → Prop) (a1 : Int32) (a2 : Int32) (z : tq_S) : Prop := wc_X12_pieceCell_24 Q a1 a2 (1 : Int32) z
theorem ac_X12_pieceCell_19 {K : Nat × (Nat → Int32)} {x : Nat} {Q : tq_O → tq_S → Prop} {a1 : Int32} {a2 : Int32} {z : tq_S} (h : wc_X12_pieceCell_19 Q a1 a2 z) : tq_T K 1 x mm_X12_pieceCell 19 [.ref 51, .int a1, .int a2, .null, .null] [.ref 51] z Q := by
  unfold wc_X12_pieceCell_19 at h
  refine tq_k_ic (n := 1) (v := (1 : Int32)) (by decide +kernel) kc_1 ?_
  refine tq_s_goto (off := 4) (tgt := 24) (by decide +kernel) (by decide +kernel) ?_
  exact ac_X12_pieceCell_24 h
def wm_X12_pieceCell (a1 : Int32) (a2 : Int32) (z : tq_S) (Q : tq_O → tq_S → Prop) : Prop := wm_X12_isIn a1 (0 : Int32) (5 : Int32) z (tq_wi fun r2 z1 => ((r2 = 0 → wc_X12_pieceCell_19 Q a1 a2 z1) ∧ (¬ r2 = 0 → wm_X12_isIn a2 (0 : Int32) (5 : Int32) z1 (tq_wi fun r4 z3 => ((¬ r4 = 0 → wc_X12_pieceCell_24 Q a1 a2 (0 : Int32) z3) ∧ (r4 = 0 → wc_X12_pieceCell_19 Q a1 a2 z3))))))
theorem am_X12_pieceCell {K : Nat × (Nat → Int32)} {x : Nat} {z : tq_S} {Q : tq_O → tq_S → Prop} {a1 : Int32} {a2 : Int32} (h : wm_X12_pieceCell a1 a2 z Q) : tq_M K 1 x mm_X12_pieceCell [.ref 51, .int a1, .int a2] z Q := by
  unfold wm_X12_pieceCell at h
  refine tq_enter (L := [.ref 51, .int a1, .int a2, .null, .null]) mf_X12_pieceCell.1 rfl rfl (Nat.le_of_ble_eq_true rfl) ?_
  refine tq_s_aload_n (kk := 0) (by decide +kernel) rfl ?_
  refine tq_s_iload_n (kk := 1) (by decide +kernel) rfl ?_
  refine tq_k_ic (n := 0) (v := (0 : Int32)) (by decide +kernel) kc_0 ?_
  refine tq_k_ic (n := 5) (v := (5 : Int32)) (by decide +kernel) kc_5 ?_
  refine tq_callS (as := [.int a1, .int (0 : Int32), .int (5 : Int32)]) (st := [.ref 51]) (d1 := 0) (x1 := 0) (x2 := x) (by decide +kernel) ln_12_148 mf_X12_isIn rfl (by decide) np_X12_isIn rfl (Nat.le_of_ble_eq_true rfl) (by decide) (Nat.zero_add _).symm (tq_M_mono (am_X12_isIn h) ?_)
  refine tq_wi_e (fun r2 z1 h => ?_)
  refine tq_if_eq (off := 12) (tgt := 19) (by decide +kernel) (by decide +kernel) (fun hc => ?_) (fun hc => ?_)
  · replace h := h.1 hc
    exact ac_X12_pieceCell_19 h
  · replace h := h.2 hc
    refine tq_s_iload_n (kk := 2) (by decide +kernel) rfl ?_
    refine tq_k_ic (n := 0) (v := (0 : Int32)) (by decide +kernel) kc_0 ?_
    refine tq_k_ic (n := 5) (v := (5 : Int32)) (by decide +kernel) kc_5 ?_
    refine tq_callS (as := [.int a2, .int (0 : Int32), .int (5 : Int32)]) (st := [.ref 51]) (d1 := 0) (x1 := 0) (x2 := x) (by decide +kernel) ln_12_148 mf_X12_isIn rfl (by decide) np_X12_isIn rfl (Nat.le_of_ble_eq_true rfl) (by decide) (Nat.zero_add _).symm (tq_M_mono (am_X12_isIn h) ?_)
    refine tq_wi_e (fun r4 z3 h => ?_)
    refine tq_if_ne (off := 7) (tgt := 23) (by decide +kernel) (by decide +kernel) (fun hc => ?_) (fun hc => ?_)
    · replace h := h.1 hc
      refine tq_k_ic (n := 0) (v := (0 : Int32)) (by decide +kernel) kc_0 ?_
      exact ac_X12_pieceCell_24 h
    · replace h := h.2 hc
      exact ac_X12_pieceCell_19 h
def wc_X12_isKnown_53 (B6 : Int32 → Int32 → tq_S → Prop) (B16 : Int32 → Int32 → tq_S → Prop) (Q : tq_O → tq_S → Prop) (a1 : Int64) (a4 : Int32) (a6 : Int32) (a7 : Int32) (s0 : Int32) (s1 : Int32) (z : tq_S) : Prop := ∀ v101 : Int32, v101 = (s1 ||| s0) → ∀ v102 : Int32, v102 = a7 + (1 : Int32) → B16 v101 v102 z
theorem ac_X12_isKnown_53 {K : Nat × (Nat → Int32)} {x : Nat} {Q : tq_O → tq_S → Prop} {B6 : Int32 → Int32 → tq_S → Prop} {B16 : Int32 → Int32 → tq_S → Prop} {a1 : Int64} {a4 : Int32} {a6 : Int32} {a7 : Int32} {s0 : Int32} {s1 : Int32} {z : tq_S} (hB6 : ∀ (b5 : Int32) (b6 : Int32) (z : tq_S), B6 b5 b6 z → tq_T K 0 x mm_X12_isKnown 6 [.ref 51, .long a1, .null, .null, .int a4, .int b5, .int b6, .null] [] z Q) (hB16 : ∀ (b5 : Int32) (b7 : Int32) (z : tq_S), B16 b5 b7 z → tq_T K 0 x mm_X12_isKnown 16 [.ref 51, .long a1, .null, .null, .int a4, .int b5, .int a6, .int b7] [] z Q) (h : wc_X12_isKnown_53 B6 B16 Q a1 a4 a6 a7 s0 s1 z) : tq_T K 0 x mm_X12_isKnown 53 [.ref 51, .long a1, .null, .null, .int a4, .null, .int a6, .int a7] [.int s0, .int s1] z Q := by
  unfold wc_X12_isKnown_53 at h
  refine tq_s_ior (by decide +kernel) ?_
  refine tq_g_istore (i := 5) (fun v101 => [.ref 51, .long a1, .null, .null, .int a4, .int v101, .int a6, .int a7]) (by decide +kernel) (by decide) (fun _ => rfl) (fun v101 ev101 => ?_)
  replace h := h v101 ev101
  refine tq_g_iinc (i := 7) (fun v102 => [.ref 51, .long a1, .null, .null, .int a4, .int v101, .int a6, .int v102]) (by decide +kernel) rfl (1 : Int32) kc_1 (fun _ => rfl) (fun v102 ev102 => ?_)
  replace h := h v102 ev102
  refine tq_s_goto (off := -43) (tgt := 16) (by decide +kernel) (by decide +kernel) ?_
  exact hB16 _ _ _ h
def wc_X12_isKnown_62 (B6 : Int32 → Int32 → tq_S → Prop) (Q : tq_O → tq_S → Prop) (a1 : Int64) (a4 : Int32) (a5 : Int32) (a6 : Int32) (z : tq_S) : Prop := ∀ v101 : Int32, v101 = a6 + (1 : Int32) → B6 a5 v101 z
theorem ac_X12_isKnown_62 {K : Nat × (Nat → Int32)} {x : Nat} {Q : tq_O → tq_S → Prop} {B6 : Int32 → Int32 → tq_S → Prop} {a1 : Int64} {a4 : Int32} {a5 : Int32} {a6 : Int32} {z : tq_S} (hB6 : ∀ (b5 : Int32) (b6 : Int32) (z : tq_S), B6 b5 b6 z → tq_T K 0 x mm_X12_isKnown 6 [.ref 51, .long a1, .null, .null, .int a4, .int b5, .int b6, .null] [] z Q) (h : wc_X12_isKnown_62 B6 Q a1 a4 a5 a6 z) : tq_T K 0 x mm_X12_isKnown 62 [.ref 51, .long a1, .null, .null, .int a4, .int a5, .int a6, .null] [] z Q := by
  unfold wc_X12_isKnown_62 at h
  refine tq_g_iinc (i := 6) (fun v101 => [.ref 51, .long a1, .null, .null, .int a4, .int a5, .int v101, .null]) (by decide +kernel) rfl (1 : Int32) kc_1 (fun _ => rfl) (fun v101 ev101 => ?_)
  replace h := h v101 ev101
  refine tq_s_goto (off := -59) (tgt := 6) (by decide +kernel) (by decide +kernel) ?_
  exact hB6 _ _ _ h
def wb_X12_isKnown_16 (B6 : Int32 → Int32 → tq_S → Prop) (B16 : Int32 → Int32 → tq_S → Prop) (Q : tq_O → tq_S → Prop) (a1 : Int64) (a4 : Int32) (a5 : Int32) (a6 : Int32) (a7 : Int32) (z : tq_S) : Prop := vp_in a6 6 ∧ (((tq_ai z 68 (Int32.toNatClampNeg a6)) ≤ a7 → wc_X12_isKnown_62 B6 Q a1 a4 a5 a6 z) ∧ (¬ (tq_ai z 68 (Int32.toNatClampNeg a6)) ≤ a7 → vp_in (((8 : Int32) * a6) + a7) 48 ∧ ((¬ (tq_al z 69 (Int32.toNatClampNeg (((8 : Int32) * a6) + a7))) = a1 → wc_X12_isKnown_53 B6 B16 Q a1 a4 a6 a7 (0 : Int32) a5 z) ∧ ((tq_al z 69 (Int32.toNatClampNeg (((8 : Int32) * a6) + a7))) = a1 → wc_X12_isKnown_53 B6 B16 Q a1 a4 a6 a7 (1 : Int32) a5 z))))
def wc_X12_isKnown_16 (B6 : Int32 → Int32 → tq_S → Prop) (Q : tq_O → tq_S → Prop) (a1 : Int64) (a4 : Int32) (a5 : Int32) (a6 : Int32) (a7 : Int32) (z : tq_S) : Prop := tq_lp (σ := Int32 × Int32 × tq_S) (fun B s => wb_X12_isKnown_16 B6 (fun b5 b7 z => B (b5, b7, z)) Q a1 a4 s.1 a6 s.2.1 s.2.2) (a5, a7, z)
theorem ab_X12_isKnown_16 {K : Nat × (Nat → Int32)} {x : Nat} {Q : tq_O → tq_S → Prop} {B6 : Int32 → Int32 → tq_S → Prop} {B16 : Int32 → Int32 → tq_S → Prop} {a1 : Int64} {a4 : Int32} {a5 : Int32} {a6 : Int32} {a7 : Int32} {z : tq_S} (hB6 : ∀ (b5 : Int32) (b6 : Int32) (z : tq_S), B6 b5 b6 z → tq_T K 0 x mm_X12_isKnown 6 [.ref 51, .long a1, .null, .null, .int a4, .int b5, .int b6, .null] [] z Q) (hB16 : ∀ (b5 : Int32) (b7 : Int32) (z : tq_S), B16 b5 b7 z → tq_T K 0 x mm_X12_isKnown 16 [.ref 51, .long a1, .null, .null, .int a4, .int b5, .int a6, .int b7] [] z Q) (h : wb_X12_isKnown_16 B6 B16 Q a1 a4 a5 a6 a7 z) : tq_T K 0 x mm_X12_isKnown 16 [.ref 51, .long a1, .null, .null, .int a4, .int a5, .int a6, .int a7] [] z Q := by
  unfold wb_X12_isKnown_16 at h
  refine tq_s_iload (i := 7) (by decide +kernel) rfl ?_
  refine tq_s_aload_n (kk := 0) (by decide +kernel) rfl ?_
  refine fg_12_71_51 rfl (by decide +kernel) ?_
  refine tq_s_iload (i := 6) (by decide +kernel) rfl ?_
  refine tq_s_iald (by decide +kernel) sh_68 h.1 ?_
  replace h := h.2
  refine tq_icmp_ge (off := 37) (tgt := 62) (by decide +kernel) (by decide +kernel) (fun hc => ?_) (fun hc => ?_)
  · replace h := h.1 hc
    exact tq_to (tq_lk1 (tq_lk1 (tq_lk1 (tq_lk1 (tq_lk1 (tq_lk1 (tq_lk1 (tq_ld1 tq_l0)))))))) (ac_X12_isKnown_62 hB6 h)
  · replace h := h.2 hc
    refine tq_s_iload (i := 5) (by decide +kernel) rfl ?_
    refine tq_s_aload_n (kk := 0) (by decide +kernel) rfl ?_
    refine fg_12_74_51 rfl (by decide +kernel) ?_
    refine tq_k_bi (n := 8) (v := (8 : Int32)) (by decide +kernel) kb_8 ?_
    refine tq_s_iload (i := 6) (by decide +kernel) rfl ?_
    refine tq_s_imul (by decide +kernel) ?_
    refine tq_s_iload (i := 7) (by decide +kernel) rfl ?_
    refine tq_s_iadd (by decide +kernel) ?_
    refine tq_s_lald (by decide +kernel) sh_69 h.1 ?_
    replace h := h.2
    refine tq_s_lload_n (kk := 1) (by decide +kernel) rfl ?_
    refine tq_lcmp_ne (off := 7) (tgt := 52) (by decide +kernel) (by decide +kernel) (by decide +kernel) (fun hc => ?_) (fun hc => ?_)
    · replace h := h.1 hc
      refine tq_k_ic (n := 0) (v := (0 : Int32)) (by decide +kernel) kc_0 ?_
      exact tq_to (tq_lk1 (tq_lk1 (tq_lk1 (tq_lk1 (tq_lk1 (tq_ld1 (tq_lk1 (tq_lk1 tq_l0)))))))) (ac_X12_isKnown_53 hB6 hB16 h)
    · replace h := h.2 hc
      refine tq_k_ic (n := 1) (v := (1 : Int32)) (by decide +kernel) kc_1 ?_
      refine tq_s_goto (off := 4) (tgt := 53) (by decide +kernel) (by decide +kernel) ?_
      exact tq_to (tq_lk1 (tq_lk1 (tq_lk1 (tq_lk1 (tq_lk1 (tq_ld1 (tq_lk1 (tq_lk1 tq_l0)))))))) (ac_X12_isKnown_53 hB6 hB16 h)
theorem ac_X12_isKnown_16 {K : Nat × (Nat → Int32)} {x : Nat} {Q : tq_O → tq_S → Prop} {B6 : Int32 → Int32 → tq_S → Prop} {a1 : Int64} {a4 : Int32} {a5 : Int32} {a6 : Int32} {a7 : Int32} {z : tq_S} (hB6 : ∀ (b5 : Int32) (b6 : Int32) (z : tq_S), B6 b5 b6 z → tq_T K 0 x mm_X12_isKnown 6 [.ref 51, .long a1, .null, .null, .int a4, .int b5, .int b6, .null] [] z Q) (h : wc_X12_isKnown_16 B6 Q a1 a4 a5 a6 a7 z) : tq_T K 0 x mm_X12_isKnown 16 [.ref 51, .long a1, .null, .null, .int a4, .int a5, .int a6, .int a7] [] z Q :=
  tq_lp_T (σ := Int32 × Int32 × tq_S) (s := (a5, a7, z)) (G := fun s => tq_T K 0 x mm_X12_isKnown 16 [.ref 51, .long a1, .null, .null, .int a4, .int s.1, .int a6, .int s.2.1] [] s.2.2 Q) (fun B hB s h => ab_X12_isKnown_16 hB6 (fun b5 b7 z h => hB (b5, b7, z) h) h) h
def wb_X12_isKnown_6 (B6 : Int32 → Int32 → tq_S → Prop) (Q : tq_O → tq_S → Prop) (a1 : Int64) (a4 : Int32) (a5 : Int32) (a6 : Int32) (z : tq_S) : Prop := ((a4 ≤ a6 → tq_nz a5 ∧ Q (.inl (some (.int a5))) z) ∧ (¬ a4 ≤ a6 → wc_X12_isKnown_16 B6 Q a1 a4 a5 a6 (0 : Int32) z))
def wc_X12_isKnown_6 (Q : tq_O → tq_S → Prop) (a1 : Int64) (a4 : Int32) (a5 : Int32) (a6 : Int32) (z : tq_S) : Prop := tq_lp (σ := Int32 × Int32 × tq_S) (fun B s => wb_X12_isKnown_6 (fun b5 b6 z => B (b5, b6, z)) Q a1 a4 s.1 s.2.1 s.2.2) (a5, a6, z)
theorem ab_X12_isKnown_6 {K : Nat × (Nat → Int32)} {x : Nat} {Q : tq_O → tq_S → Prop} {B6 : Int32 → Int32 → tq_S → Prop} {a1 : Int64} {a4 : Int32} {a5 : Int32} {a6 : Int32} {z : tq_S} (hB6 : ∀ (b5 : Int32) (b6 : Int32) (z : tq_S), B6 b5 b6 z → tq_T K 0 x mm_X12_isKnown 6 [.ref 51, .long a1, .null, .null, .int a4, .int b5, .int b6, .null] [] z Q) (h : wb_X12_isKnown_6 B6 Q a1 a4 a5 a6 z) : tq_T K 0 x mm_X12_isKnown 6 [.ref 51, .long a1, .null, .null, .int a4, .int a5, .int a6, .null] [] z Q := by
  unfold wb_X12_isKnown_6 at h
  refine tq_s_iload (i := 6) (by decide +kernel) rfl ?_
  refine tq_s_iload (i := 4) (by decide +kernel) rfl ?_
  refine tq_icmp_ge (off := 58) (tgt := 68) (by decide +kernel) (by decide +kernel) (fun hc => ?_) (fun hc => ?_)
  · replace h := h.1 hc
    refine tq_s_iload (i := 5) (by decide +kernel) rfl ?_
    exact tq_ret_z (st := []) (ty := .boolean) (by decide +kernel) (tq_nz_f h.1).1 rfl h.2
  · replace h := h.2 hc
    refine tq_k_ic (n := 0) (v := (0 : Int32)) (by decide +kernel) kc_0 ?_
    refine tq_s_istore (i := 7) (L9 := [.ref 51, .long a1, .null, .null, .int a4, .int a5, .int a6, .int (0 : Int32)]) (by decide +kernel) (by decide) rfl ?_
    exact ac_X12_isKnown_16 hB6 h
theorem ac_X12_isKnown_6 {K : Nat × (Nat → Int32)} {x : Nat} {Q : tq_O → tq_S → Prop} {a1 : Int64} {a4 : Int32} {a5 : Int32} {a6 : Int32} {z : tq_S} (h : wc_X12_isKnown_6 Q a1 a4 a5 a6 z) : tq_T K 0 x mm_X12_isKnown 6 [.ref 51, .long a1, .null, .null, .int a4, .int a5, .int a6, .null] [] z Q :=
  tq_lp_T (σ := Int32 × Int32 × tq_S) (s := (a5, a6, z)) (G := fun s => tq_T K 0 x mm_X12_isKnown 6 [.ref 51, .long a1, .null, .null, .int a4, .int s.1, .int s.2.1, .null] [] s.2.2 Q) (fun B hB s h => ab_X12_isKnown_6 (fun b5 b6 z h => hB (b5, b6, z) h) h) h
def wm_X12_isKnown (a1 : Int64) (a3 : Int32) (a4 : Int32) (z : tq_S) (Q : tq_O → tq_S → Prop) : Prop := wc_X12_isKnown_6 Q a1 a4 (0 : Int32) a3 z
theorem am_X12_isKnown {K : Nat × (Nat → Int32)} {x : Nat} {z : tq_S} {Q : tq_O → tq_S → Prop} {a1 : Int64} {a3 : Int32} {a4 : Int32} (h : wm_X12_isKnown a1 a3 a4 z Q) : tq_M K 0 x mm_X12_isKnown [.ref 51, .long a1, .int a3, .int a4] z Q := by
  unfold wm_X12_isKnown at h
  refine tq_enter (L := [.ref 51, .long a1, .null, .int a3, .int a4, .null, .null, .null]) mf_X12_isKnown.1 rfl rfl (Nat.le_of_ble_eq_true rfl) ?_
  refine tq_k_ic (n := 0) (v := (0 : Int32)) (by decide +kernel) kc_0 ?_
  refine tq_s_istore (i := 5) (L9 := [.ref 51, .long a1, .null, .int a3, .int a4, .int (0 : Int32), .null, .null]) (by decide +kernel) (by decide) rfl ?_
  refine tq_s_iload_n (kk := 3) (by decide +kernel) rfl ?_
  refine tq_s_istore (i := 6) (L9 := [.ref 51, .long a1, .null, .int a3, .int a4, .int (0 : Int32), .int a3, .null]) (by decide +kernel) (by decide) rfl ?_
  exact tq_to (tq_lk1 (tq_lk1 (tq_lk1 (tq_ld1 (tq_lk1 (tq_lk1 (tq_lk1 (tq_lk1 tq_l0)))))))) (ac_X12_isKnown_6 h)
def wm_X12_isBit (a0 : Int64) (a2 : Int32) (a3 : Int32) (z : tq_S) (Q : tq_O → tq_S → Prop) : Prop := wm_X12_isIn a2 (0 : Int32) (5 : Int32) z (tq_wi fun r2 z1 => ((r2 = 0 → Q (.inl (some (.int (0 : Int32)))) z1) ∧ (¬ r2 = 0 → wm_X12_isIn a3 (0 : Int32) (5 : Int32) z1 (tq_wi fun r4 z3 => ((r4 = 0 → Q (.inl (some (.int (0 : Int32)))) z3) ∧ (¬ r4 = 0 → ((¬ ((a0 >>> ((Int32.toInt64 (((6 : Int32) * a3) + a2)) &&& 63)) &&& (1 : Int64)) = (1 : Int64) → Q (.inl (some (.int (0 : Int32)))) z3) ∧ (((a0 >>> ((Int32.toInt64 (((6 : Int32) * a3) + a2)) &&& 63)) &&& (1 : Int64)) = (1 : Int64) → Q (.inl (some (.int (1 : Int32)))) z3))))))))
theorem am_X12_isBit {K : Nat × (Nat → Int32)} {x : Nat} {z : tq_S} {Q : tq_O → tq_S → Prop} {a0 : Int64} {a2 : Int32} {a3 : Int32} (h : wm_X12_isBit a0 a2 a3 z Q) : tq_M K 1 x mm_X12_isBit [.long a0, .int a2, .int a3] z Q := by
  unfold wm_X12_isBit at h
  refine tq_enter (L := [.long a0, .null, .int a2, .int a3]) mf_X12_isBit.1 rfl rfl (Nat.le_of_ble_eq_true rfl) ?_
  refine tq_s_iload_n (kk := 2) (by decide +kernel) rfl ?_
  refine tq_k_ic (n := 0) (v := (0 : Int32)) (by decide +kernel) kc_0 ?_
  refine tq_k_ic (n := 5) (v := (5 : Int32)) (by decide +kernel) kc_5 ?_
  refine tq_callS (as := [.int a2, .int (0 : Int32), .int (5 : Int32)]) (st := []) (d1 := 0) (x1 := 0) (x2 := x) (by decide +kernel) ln_12_148 mf_X12_isIn rfl (by decide) np_X12_isIn rfl (Nat.le_of_ble_eq_true rfl) (by decide) (Nat.zero_add _).symm (tq_M_mono (am_X12_isIn h) ?_)
  refine tq_wi_e (fun r2 z1 h => ?_)
  refine tq_if_eq (off := 31) (tgt := 37) (by decide +kernel) (by decide +kernel) (fun hc => ?_) (fun hc => ?_)
  · replace h := h.1 hc
    refine tq_k_ic (n := 0) (v := (0 : Int32)) (by decide +kernel) kc_0 ?_
    exact tq_ret_z (st := []) (ty := .boolean) (by decide +kernel) (by decide +kernel) rfl h
  · replace h := h.2 hc
    refine tq_s_iload_n (kk := 3) (by decide +kernel) rfl ?_
    refine tq_k_ic (n := 0) (v := (0 : Int32)) (by decide +kernel) kc_0 ?_
    refine tq_k_ic (n := 5) (v := (5 : Int32)) (by decide +kernel) kc_5 ?_
    refine tq_callS (as := [.int a3, .int (0 : Int32), .int (5 : Int32)]) (st := []) (d1 := 0) (x1 := 0) (x2 := x) (by decide +kernel) ln_12_148 mf_X12_isIn rfl (by decide) np_X12_isIn rfl (Nat.le_of_ble_eq_true rfl) (by decide) (Nat.zero_add _).symm (tq_M_mono (am_X12_isIn h) ?_)
    refine tq_wi_e (fun r4 z3 h => ?_)
    refine tq_if_eq (off := 22) (tgt := 37) (by decide +kernel) (by decide +kernel) (fun hc => ?_) (fun hc => ?_)
    · replace h := h.1 hc
      refine tq_k_ic (n := 0) (v := (0 : Int32)) (by decide +kernel) kc_0 ?_
      exact tq_ret_z (st := []) (ty := .boolean) (by decide +kernel) (by decide +kernel) rfl h
    · replace h := h.2 hc
      refine tq_s_lload_n (kk := 0) (by decide +kernel) rfl ?_
      refine tq_k_bi (n := 6) (v := (6 : Int32)) (by decide +kernel) kb_6 ?_
      refine tq_s_iload_n (kk := 3) (by decide +kernel) rfl ?_
      refine tq_s_imul (by decide +kernel) ?_
      refine tq_s_iload_n (kk := 2) (by decide +kernel) rfl ?_
      refine tq_s_iadd (by decide +kernel) ?_
      refine tq_s_lshr (by decide +kernel) ?_
      refine tq_k_lc (n := 1) (v := (1 : Int64)) (by decide +kernel) (by decide +kernel) ?_
      refine tq_s_land (by decide +kernel) ?_
      refine tq_k_lc (n := 1) (v := (1 : Int64)) (by decide +kernel) (by decide +kernel) ?_
      refine tq_lcmp_ne (off := 7) (tgt := 37) (by decide +kernel) (by decide +kernel) (by decide +kernel) (fun hc => ?_) (fun hc => ?_)
      · replace h := h.1 hc
        refine tq_k_ic (n := 0) (v := (0 : Int32)) (by decide +kernel) kc_0 ?_
        exact tq_ret_z (st := []) (ty := .boolean) (by decide +kernel) (by decide +kernel) rfl h
      · replace h := h.2 hc
        refine tq_k_ic (n := 1) (v := (1 : Int32)) (by decide +kernel) kc_1 ?_
        refine tq_s_goto (off := 4) (tgt := 38) (by decide +kernel) (by decide +kernel) ?_
        exact tq_ret_z (st := []) (ty := .boolean) (by decide +kernel) (by decide +kernel) rfl h
def wc_X12_hangs_117 (B8 : Int64 → Int64 → tq_S → Prop) (B21 : Int64 → Int32 → tq_S → Prop) (Q : tq_O → tq_S → Prop) (a0 : Int64) (a4 : Int64) (a6 : Int32) (s0 : Int64) (s1 : Int64) (z : tq_S) : Prop := ∀ v101 : Int64, v101 = (s1 ||| s0) → ∀ v102 : Int32, v102 = a6 + (1 : Int32) → B21 v101 v102 z
theorem ac_X12_hangs_117 {K : Nat × (Nat → Int32)} {x : Nat} {Q : tq_O → tq_S → Prop} {B8 : Int64 → Int64 → tq_S → Prop} {B21 : Int64 → Int32 → tq_S → Prop} {a0 : Int64} {a4 : Int64} {a6 : Int32} {s0 : Int64} {s1 : Int64} {z : tq_S} (hB8 : ∀ (b2 : Int64) (b4 : Int64) (z : tq_S), B8 b2 b4 z → tq_T K 2 x mm_X12_hangs 8 [.long a0, .null, .long b2, .null, .long b4, .null, .null, .null, .null, .null] [] z Q) (hB21 : ∀ (b2 : Int64) (b6 : Int32) (z : tq_S), B21 b2 b6 z → tq_T K 2 x mm_X12_hangs 21 [.long a0, .null, .long b2, .null, .long a4, .null, .int b6, .null, .null, .null] [] z Q) (h : wc_X12_hangs_117 B8 B21 Q a0 a4 a6 s0 s1 z) : tq_T K 2 x mm_X12_hangs 117 [.long a0, .null, .null, .null, .long a4, .null, .int a6, .null, .null, .null] [.long s0, .long s1] z Q := by
  unfold wc_X12_hangs_117 at h
  refine tq_s_lor (by decide +kernel) ?_
  refine tq_g_lstore_n (kk := 2) (fun v101 => [.long a0, .null, .long v101, .null, .long a4, .null, .int a6, .null, .null, .null]) (by decide +kernel) (by decide) (fun _ => rfl) (fun v101 ev101 => ?_)
  replace h := h v101 ev101
  refine tq_g_iinc (i := 6) (fun v102 => [.long a0, .null, .long v101, .null, .long a4, .null, .int v102, .null, .null, .null]) (by decide +kernel) rfl (1 : Int32) kc_1 (fun _ => rfl) (fun v102 ev102 => ?_)
  replace h := h v102 ev102
  refine tq_s_goto (off := -101) (tgt := 21) (by decide +kernel) (by decide +kernel) ?_
  exact hB21 _ _ _ h
def wc_X12_hangs_99 (B8 : Int64 → Int64 → tq_S → Prop) (B21 : Int64 → Int32 → tq_S → Prop) (Q : tq_O → tq_S → Prop) (a0 : Int64) (a2 : Int64) (a4 : Int64) (a6 : Int32) (s0 : Int32) (z : tq_S) : Prop := ((s0 = 0 → wc_X12_hangs_117 B8 B21 Q a0 a4 a6 (0 : Int64) a2 z) ∧ (¬ s0 = 0 → wc_X12_hangs_117 B8 B21 Q a0 a4 a6 (a0 &&& ((1 : Int64) <<< ((Int32.toInt64 a6) &&& 63))) a2 z))
theorem ac_X12_hangs_99 {K : Nat × (Nat → Int32)} {x : Nat} {Q : tq_O → tq_S → Prop} {B8 : Int64 → Int64 → tq_S → Prop} {B21 : Int64 → Int32 → tq_S → Prop} {a0 : Int64} {a2 : Int64} {a4 : Int64} {a6 : Int32} {s0 : Int32} {z : tq_S} (hB8 : ∀ (b2 : Int64) (b4 : Int64) (z : tq_S), B8 b2 b4 z → tq_T K 2 x mm_X12_hangs 8 [.long a0, .null, .long b2, .null, .long b4, .null, .null, .null, .null, .null] [] z Q) (hB21 : ∀ (b2 : Int64) (b6 : Int32) (z : tq_S), B21 b2 b6 z → tq_T K 2 x mm_X12_hangs 21 [.long a0, .null, .long b2, .null, .long a4, .null, .int b6, .null, .null, .null] [] z Q) (h : wc_X12_hangs_99 B8 B21 Q a0 a2 a4 a6 s0 z) : tq_T K 2 x mm_X12_hangs 99 [.long a0, .null, .long a2, .null, .long a4, .null, .int a6, .null, .null, .null] [.int s0] z Q := by
  unfold wc_X12_hangs_99 at h
  refine tq_s_istore (i := 9) (L9 := [.long a0, .null, .long a2, .null, .long a4, .null, .int a6, .null, .null, .int s0]) (by decide +kernel) (by decide) rfl ?_
  refine tq_s_lload_n (kk := 2) (by decide +kernel) rfl ?_
  refine tq_s_iload (i := 9) (by decide +kernel) rfl ?_
  refine tq_if_eq (off := 12) (tgt := 116) (by decide +kernel) (by decide +kernel) (fun hc => ?_) (fun hc => ?_)
  · replace h := h.1 hc
    refine tq_k_lc (n := 0) (v := (0 : Int64)) (by decide +kernel) (by decide +kernel) ?_
    exact tq_to (tq_lk1 (tq_lk1 (tq_ld1 (tq_lk1 (tq_lk1 (tq_lk1 (tq_lk1 (tq_lk1 (tq_lk1 (tq_ld1 tq_l0)))))))))) (ac_X12_hangs_117 hB8 hB21 h)
  · replace h := h.2 hc
    refine tq_s_lload_n (kk := 0) (by decide +kernel) rfl ?_
    refine tq_k_lc (n := 1) (v := (1 : Int64)) (by decide +kernel) (by decide +kernel) ?_
    refine tq_s_iload (i := 6) (by decide +kernel) rfl ?_
    refine tq_s_lshl (by decide +kernel) ?_
    refine tq_s_land (by decide +kernel) ?_
    refine tq_s_goto (off := 4) (tgt := 117) (by decide +kernel) (by decide +kernel) ?_
    exact tq_to (tq_lk1 (tq_lk1 (tq_ld1 (tq_lk1 (tq_lk1 (tq_lk1 (tq_lk1 (tq_lk1 (tq_lk1 (tq_ld1 tq_l0)))))))))) (ac_X12_hangs_117 hB8 hB21 h)
def wc_X12_hangs_94 (B8 : Int64 → Int64 → tq_S → Prop) (B21 : Int64 → Int32 → tq_S → Prop) (Q : tq_O → tq_S → Prop) (a0 : Int64) (a2 : Int64) (a4 : Int64) (a6 : Int32) (z : tq_S) : Prop := wc_X12_hangs_99 B8 B21 Q a0 a2 a4 a6 (1 : Int32) z
theorem ac_X12_hangs_94 {K : Nat × (Nat → Int32)} {x : Nat} {Q : tq_O → tq_S → Prop} {B8 : Int64 → Int64 → tq_S → Prop} {B21 : Int64 → Int32 → tq_S → Prop} {a0 : Int64} {a2 : Int64} {a4 : Int64} {a6 : Int32} {z : tq_S} (hB8 : ∀ (b2 : Int64) (b4 : Int64) (z : tq_S), B8 b2 b4 z → tq_T K 2 x mm_X12_hangs 8 [.long a0, .null, .long b2, .null, .long b4, .null, .null, .null, .null, .null] [] z Q) (hB21 : ∀ (b2 : Int64) (b6 : Int32) (z : tq_S), B21 b2 b6 z → tq_T K 2 x mm_X12_hangs 21 [.long a0, .null, .long b2, .null, .long a4, .null, .int b6, .null, .null, .null] [] z Q) (h : wc_X12_hangs_94 B8 B21 Q a0 a2 a4 a6 z) : tq_T K 2 x mm_X12_hangs 94 [.long a0, .null, .long a2, .null, .long a4, .null, .int a6, .null, .null, .null] [] z Q := by
  unfold wc_X12_hangs_94 at h
  refine tq_k_ic (n := 1) (v := (1 : Int32)) (by decide +kernel) kc_1 ?_
  refine tq_s_goto (off := 4) (tgt := 99) (by decide +kernel) (by decide +kernel) ?_
  exact ac_X12_hangs_99 hB8 hB21 h
def wc_X12_hangs_125 (B8 : Int64 → Int64 → tq_S → Prop) (Q : tq_O → tq_S → Prop) (a0 : Int64) (a2 : Int64) (a4 : Int64) (z : tq_S) : Prop := B8 a2 a4 z
theorem ac_X12_hangs_125 {K : Nat × (Nat → Int32)} {x : Nat} {Q : tq_O → tq_S → Prop} {B8 : Int64 → Int64 → tq_S → Prop} {a0 : Int64} {a2 : Int64} {a4 : Int64} {z : tq_S} (hB8 : ∀ (b2 : Int64) (b4 : Int64) (z : tq_S), B8 b2 b4 z → tq_T K 2 x mm_X12_hangs 8 [.long a0, .null, .long b2, .null, .long b4, .null, .null, .null, .null, .null] [] z Q) (h : wc_X12_hangs_125 B8 Q a0 a2 a4 z) : tq_T K 2 x mm_X12_hangs 125 [.long a0, .null, .long a2, .null, .long a4, .null, .null, .null, .null, .null] [] z Q := by
  unfold wc_X12_hangs_125 at h
  refine tq_s_goto (off := -117) (tgt := 8) (by decide +kernel) (by decide +kernel) ?_
  exact hB8 _ _ _ h
def wb_X12_hangs_21 (B8 : Int64 → Int64 → tq_S → Prop) (B21 : Int64 → Int32 → tq_S → Prop) (Q : tq_O → tq_S → Prop) (a0 : Int64) (a2 : Int64) (a4 : Int64) (a6 : Int32) (z : tq_S) : Prop := (((36 : Int32) ≤ a6 → wc_X12_hangs_125 B8 Q a0 a2 a4 z) ∧ (¬ (36 : Int32) ≤ a6 → ∀ v101 : Int32, v101 = (a6 - a6 / (6 : Int32) * (6 : Int32)) → ∀ v102 : Int32, v102 = (a6 / (6 : Int32)) → wm_X12_isBit a2 (v101 - (1 : Int32)) v102 z (tq_wi fun r104 z103 => ((¬ r104 = 0 → wc_X12_hangs_94 B8 B21 Q a0 a2 a4 a6 z103) ∧ (r104 = 0 → wm_X12_isBit a2 (v101 + (1 : Int32)) v102 z103 (tq_wi fun r106 z105 => ((¬ r106 = 0 → wc_X12_hangs_94 B8 B21 Q a0 a2 a4 a6 z105) ∧ (r106 = 0 → wm_X12_isBit a2 v101 (v102 - (1 : Int32)) z105 (tq_wi fun r108 z107 => ((¬ r108 = 0 → wc_X12_hangs_94 B8 B21 Q a0 a2 a4 a6 z107) ∧ (r108 = 0 → wm_X12_isBit a2 v101 (v102 + (1 : Int32)) z107 (tq_wi fun r110 z109 => ((r110 = 0 → wc_X12_hangs_99 B8 B21 Q a0 a2 a4 a6 (0 : Int32) z109) ∧ (¬ r110 = 0 → wc_X12_hangs_94 B8 B21 Q a0 a2 a4 a6 z109))))))))))))))
def wc_X12_hangs_21 (B8 : Int64 → Int64 → tq_S → Prop) (Q : tq_O → tq_S → Prop) (a0 : Int64) (a2 : Int64) (a4 : Int64) (a6 : Int32) (z : tq_S) : Prop := tq_lp (σ := Int64 × Int32 × tq_S) (fun B s => wb_X12_hangs_21 B8 (fun b2 b6 z => B (b2, b6, z)) Q a0 s.1 a4 s.2.1 s.2.2) (a2, a6, z)
theorem ab_X12_hangs_21 {K : Nat × (Nat → Int32)} {x : Nat} {Q : tq_O → tq_S → Prop} {B8 : Int64 → Int64 → tq_S → Prop} {B21 : Int64 → Int32 → tq_S → Prop} {a0 : Int64} {a2 : Int64} {a4 : Int64} {a6 : Int32} {z : tq_S} (hB8 : ∀ (b2 : Int64) (b4 : Int64) (z : tq_S), B8 b2 b4 z → tq_T K 2 x mm_X12_hangs 8 [.long a0, .null, .long b2, .null, .long b4, .null, .null, .null, .null, .null] [] z Q) (hB21 : ∀ (b2 : Int64) (b6 : Int32) (z : tq_S), B21 b2 b6 z → tq_T K 2 x mm_X12_hangs 21 [.long a0, .null, .long b2, .null, .long a4, .null, .int b6, .null, .null, .null] [] z Q) (h : wb_X12_hangs_21 B8 B21 Q a0 a2 a4 a6 z) : tq_T K 2 x mm_X12_hangs 21 [.long a0, .null, .long a2, .null, .long a4, .null, .int a6, .null, .null, .null] [] z Q := by
  unfold wb_X12_hangs_21 at h
  refine tq_s_iload (i := 6) (by decide +kernel) rfl ?_
  refine tq_k_bi (n := 36) (v := (36 : Int32)) (by decide +kernel) kb_36 ?_
  refine tq_icmp_ge (off := 100) (tgt := 125) (by decide +kernel) (by decide +kernel) (fun hc => ?_) (fun hc => ?_)
  · replace h := h.1 hc
    exact tq_to (tq_lk1 (tq_lk1 (tq_lk1 (tq_lk1 (tq_lk1 (tq_lk1 (tq_ld1 (tq_lk1 (tq_lk1 (tq_lk1 tq_l0)))))))))) (ac_X12_hangs_125 hB8 h)
  · replace h := h.2 hc
    refine tq_s_iload (i := 6) (by decide +kernel) rfl ?_
    refine tq_k_bi (n := 6) (v := (6 : Int32)) (by decide +kernel) kb_6 ?_
    refine tq_s_irem (by decide +kernel) (by decide +kernel) ?_
    refine tq_g_istore (i := 7) (fun v101 => [.long a0, .null, .long a2, .null, .long a4, .null, .int a6, .int v101, .null, .null]) (by decide +kernel) (by decide) (fun _ => rfl) (fun v101 ev101 => ?_)
    replace h := h v101 ev101
    refine tq_s_iload (i := 6) (by decide +kernel) rfl ?_
    refine tq_k_bi (n := 6) (v := (6 : Int32)) (by decide +kernel) kb_6 ?_
    refine tq_s_idiv (by decide +kernel) (by decide +kernel) ?_
    refine tq_g_istore (i := 8) (fun v102 => [.long a0, .null, .long a2, .null, .long a4, .null, .int a6, .int v101, .int v102, .null]) (by decide +kernel) (by decide) (fun _ => rfl) (fun v102 ev102 => ?_)
    replace h := h v102 ev102
    refine tq_s_lload_n (kk := 2) (by decide +kernel) rfl ?_
    refine tq_s_iload (i := 7) (by decide +kernel) rfl ?_
    refine tq_k_ic (n := 1) (v := (1 : Int32)) (by decide +kernel) kc_1 ?_
    refine tq_s_isub (by decide +kernel) ?_
    refine tq_s_iload (i := 8) (by decide +kernel) rfl ?_
    refine tq_callS (as := [.long a2, .int (v101 - (1 : Int32)), .int v102]) (st := []) (d1 := 1) (x1 := 0) (x2 := x) (by decide +kernel) ln_12_320 mf_X12_isBit rfl (by decide) np_X12_isBit rfl (Nat.le_of_ble_eq_true rfl) (by decide) (Nat.zero_add _).symm (tq_M_mono (am_X12_isBit h) ?_)
    refine tq_wi_e (fun r104 z103 h => ?_)
    refine tq_if_ne (off := 42) (tgt := 94) (by decide +kernel) (by decide +kernel) (fun hc => ?_) (fun hc => ?_)
    · replace h := h.1 hc
      exact tq_to (tq_lk1 (tq_lk1 (tq_lk1 (tq_lk1 (tq_lk1 (tq_lk1 (tq_lk1 (tq_ld1 (tq_ld1 (tq_lk1 tq_l0)))))))))) (ac_X12_hangs_94 hB8 hB21 h)
    · replace h := h.2 hc
      refine tq_s_lload_n (kk := 2) (by decide +kernel) rfl ?_
      refine tq_s_iload (i := 7) (by decide +kernel) rfl ?_
      refine tq_k_ic (n := 1) (v := (1 : Int32)) (by decide +kernel) kc_1 ?_
      refine tq_s_iadd (by decide +kernel) ?_
      refine tq_s_iload (i := 8) (by decide +kernel) rfl ?_
      refine tq_callS (as := [.long a2, .int (v101 + (1 : Int32)), .int v102]) (st := []) (d1 := 1) (x1 := 0) (x2 := x) (by decide +kernel) ln_12_320 mf_X12_isBit rfl (by decide) np_X12_isBit rfl (Nat.le_of_ble_eq_true rfl) (by decide) (Nat.zero_add _).symm (tq_M_mono (am_X12_isBit h) ?_)
      refine tq_wi_e (fun r106 z105 h => ?_)
      refine tq_if_ne (off := 29) (tgt := 94) (by decide +kernel) (by decide +kernel) (fun hc => ?_) (fun hc => ?_)
      · replace h := h.1 hc
        exact tq_to (tq_lk1 (tq_lk1 (tq_lk1 (tq_lk1 (tq_lk1 (tq_lk1 (tq_lk1 (tq_ld1 (tq_ld1 (tq_lk1 tq_l0)))))))))) (ac_X12_hangs_94 hB8 hB21 h)
      · replace h := h.2 hc
        refine tq_s_lload_n (kk := 2) (by decide +kernel) rfl ?_
        refine tq_s_iload (i := 7) (by decide +kernel) rfl ?_
        refine tq_s_iload (i := 8) (by decide +kernel) rfl ?_
        refine tq_k_ic (n := 1) (v := (1 : Int32)) (by decide +kernel) kc_1 ?_
        refine tq_s_isub (by decide +kernel) ?_
        refine tq_callS (as := [.long a2, .int v101, .int (v102 - (1 : Int32))]) (st := []) (d1 := 1) (x1 := 0) (x2 := x) (by decide +kernel) ln_12_320 mf_X12_isBit rfl (by decide) np_X12_isBit rfl (Nat.le_of_ble_eq_true rfl) (by decide) (Nat.zero_add _).symm (tq_M_mono (am_X12_isBit h) ?_)
        refine tq_wi_e (fun r108 z107 h => ?_)
        refine tq_if_ne (off := 16) (tgt := 94) (by decide +kernel) (by decide +kernel) (fun hc => ?_) (fun hc => ?_)
        · replace h := h.1 hc
          exact tq_to (tq_lk1 (tq_lk1 (tq_lk1 (tq_lk1 (tq_lk1 (tq_lk1 (tq_lk1 (tq_ld1 (tq_ld1 (tq_lk1 tq_l0)))))))))) (ac_X12_hangs_94 hB8 hB21 h)
        · replace h := h.2 hc
          refine tq_s_lload_n (kk := 2) (by decide +kernel) rfl ?_
          refine tq_s_iload (i := 7) (by decide +kernel) rfl ?_
          refine tq_s_iload (i := 8) (by decide +kernel) rfl ?_
          refine tq_k_ic (n := 1) (v := (1 : Int32)) (by decide +kernel) kc_1 ?_
          refine tq_s_iadd (by decide +kernel) ?_
          refine tq_callS (as := [.long a2, .int v101, .int (v102 + (1 : Int32))]) (st := []) (d1 := 1) (x1 := 0) (x2 := x) (by decide +kernel) ln_12_320 mf_X12_isBit rfl (by decide) np_X12_isBit rfl (Nat.le_of_ble_eq_true rfl) (by decide) (Nat.zero_add _).symm (tq_M_mono (am_X12_isBit h) ?_)
          refine tq_wi_e (fun r110 z109 h => ?_)
          refine tq_if_eq (off := 7) (tgt := 98) (by decide +kernel) (by decide +kernel) (fun hc => ?_) (fun hc => ?_)
          · replace h := h.1 hc
            refine tq_k_ic (n := 0) (v := (0 : Int32)) (by decide +kernel) kc_0 ?_
            exact tq_to (tq_lk1 (tq_lk1 (tq_lk1 (tq_lk1 (tq_lk1 (tq_lk1 (tq_lk1 (tq_ld1 (tq_ld1 (tq_lk1 tq_l0)))))))))) (ac_X12_hangs_99 hB8 hB21 h)
          · replace h := h.2 hc
            exact tq_to (tq_lk1 (tq_lk1 (tq_lk1 (tq_lk1 (tq_lk1 (tq_lk1 (tq_lk1 (tq_ld1 (tq_ld1 (tq_lk1 tq_l0)))))))))) (ac_X12_hangs_94 hB8 hB21 h)
theorem ac_X12_hangs_21 {K : Nat × (Nat → Int32)} {x : Nat} {Q : tq_O → tq_S → Prop} {B8 : Int64 → Int64 → tq_S → Prop} {a0 : Int64} {a2 : Int64} {a4 : Int64} {a6 : Int32} {z : tq_S} (hB8 : ∀ (b2 : Int64) (b4 : Int64) (z : tq_S), B8 b2 b4 z → tq_T K 2 x mm_X12_hangs 8 [.long a0, .null, .long b2, .null, .long b4, .null, .null, .null, .null, .null] [] z Q) (h : wc_X12_hangs_21 B8 Q a0 a2 a4 a6 z) : tq_T K 2 x mm_X12_hangs 21 [.long a0, .null, .long a2, .null, .long a4, .null, .int a6, .null, .null, .null] [] z Q :=
  tq_lp_T (σ := Int64 × Int32 × tq_S) (s := (a2, a6, z)) (G := fun s => tq_T K 2 x mm_X12_hangs 21 [.long a0, .null, .long s.1, .null, .long a4, .null, .int s.2.1, .null, .null, .null] [] s.2.2 Q) (fun B hB s h => ab_X12_hangs_21 hB8 (fun b2 b6 z h => hB (b2, b6, z) h) h) h
def wc_X12_hangs_128 (Q : tq_O → tq_S → Prop) (a0 : Int64) (a2 : Int64) (z : tq_S) : Prop := ((¬ a2 = a0 → Q (.inl (some (.int (0 : Int32)))) z) ∧ (a2 = a0 → Q (.inl (some (.int (1 : Int32)))) z))
theorem ac_X12_hangs_128 {K : Nat × (Nat → Int32)} {x : Nat} {Q : tq_O → tq_S → Prop} {a0 : Int64} {a2 : Int64} {z : tq_S} (h : wc_X12_hangs_128 Q a0 a2 z) : tq_T K 2 x mm_X12_hangs 128 [.long a0, .null, .long a2, .null, .null, .null, .null, .null, .null, .null] [] z Q := by
  unfold wc_X12_hangs_128 at h
  refine tq_s_lload_n (kk := 2) (by decide +kernel) rfl ?_
  refine tq_s_lload_n (kk := 0) (by decide +kernel) rfl ?_
  refine tq_lcmp_ne (off := 7) (tgt := 138) (by decide +kernel) (by decide +kernel) (by decide +kernel) (fun hc => ?_) (fun hc => ?_)
  · replace h := h.1 hc
    refine tq_k_ic (n := 0) (v := (0 : Int32)) (by decide +kernel) kc_0 ?_
    exact tq_ret_z (st := []) (ty := .boolean) (by decide +kernel) (by decide +kernel) rfl h
  · replace h := h.2 hc
    refine tq_k_ic (n := 1) (v := (1 : Int32)) (by decide +kernel) kc_1 ?_
    refine tq_s_goto (off := 4) (tgt := 139) (by decide +kernel) (by decide +kernel) ?_
    exact tq_ret_z (st := []) (ty := .boolean) (by decide +kernel) (by decide +kernel) rfl h
def wb_X12_hangs_8 (B8 : Int64 → Int64 → tq_S → Prop) (Q : tq_O → tq_S → Prop) (a0 : Int64) (a2 : Int64) (a4 : Int64) (z : tq_S) : Prop := ((a2 = a4 → wc_X12_hangs_128 Q a0 a2 z) ∧ (¬ a2 = a4 → wc_X12_hangs_21 B8 Q a0 a2 a2 (0 : Int32) z))
def wc_X12_hangs_8 (Q : tq_O → tq_S → Prop) (a0 : Int64) (a2 : Int64) (a4 : Int64) (z : tq_S) : Prop := tq_lp (σ := Int64 × Int64 × tq_S) (fun B s => wb_X12_hangs_8 (fun b2 b4 z => B (b2, b4, z)) Q a0 s.1 s.2.1 s.2.2) (a2, a4, z)
theorem ab_X12_hangs_8 {K : Nat × (Nat → Int32)} {x : Nat} {Q : tq_O → tq_S → Prop} {B8 : Int64 → Int64 → tq_S → Prop} {a0 : Int64} {a2 : Int64} {a4 : Int64} {z : tq_S} (hB8 : ∀ (b2 : Int64) (b4 : Int64) (z : tq_S), B8 b2 b4 z → tq_T K 2 x mm_X12_hangs 8 [.long a0, .null, .long b2, .null, .long b4, .null, .null, .null, .null, .null] [] z Q) (h : wb_X12_hangs_8 B8 Q a0 a2 a4 z) : tq_T K 2 x mm_X12_hangs 8 [.long a0, .null, .long a2, .null, .long a4, .null, .null, .null, .null, .null] [] z Q := by
  unfold wb_X12_hangs_8 at h
  refine tq_s_lload_n (kk := 2) (by decide +kernel) rfl ?_
  refine tq_s_lload (i := 4) (by decide +kernel) rfl ?_
  refine tq_lcmp_eq (off := 116) (tgt := 128) (by decide +kernel) (by decide +kernel) (by decide +kernel) (fun hc => ?_) (fun hc => ?_)
  · replace h := h.1 hc
    exact tq_to (tq_lk1 (tq_lk1 (tq_lk1 (tq_lk1 (tq_ld1 (tq_lk1 (tq_lk1 (tq_lk1 (tq_lk1 (tq_lk1 tq_l0)))))))))) (ac_X12_hangs_128 h)
  · replace h := h.2 hc
    refine tq_s_lload_n (kk := 2) (by decide +kernel) rfl ?_
    refine tq_s_lstore (i := 4) (L9 := [.long a0, .null, .long a2, .null, .long a2, .null, .null, .null, .null, .null]) (by decide +kernel) (by decide) rfl ?_
    refine tq_k_ic (n := 0) (v := (0 : Int32)) (by decide +kernel) kc_0 ?_
    refine tq_s_istore (i := 6) (L9 := [.long a0, .null, .long a2, .null, .long a2, .null, .int (0 : Int32), .null, .null, .null]) (by decide +kernel) (by decide) rfl ?_
    exact ac_X12_hangs_21 hB8 h
theorem ac_X12_hangs_8 {K : Nat × (Nat → Int32)} {x : Nat} {Q : tq_O → tq_S → Prop} {a0 : Int64} {a2 : Int64} {a4 : Int64} {z : tq_S} (h : wc_X12_hangs_8 Q a0 a2 a4 z) : tq_T K 2 x mm_X12_hangs 8 [.long a0, .null, .long a2, .null, .long a4, .null, .null, .null, .null, .null] [] z Q :=
  tq_lp_T (σ := Int64 × Int64 × tq_S) (s := (a2, a4, z)) (G := fun s => tq_T K 2 x mm_X12_hangs 8 [.long a0, .null, .long s.1, .null, .long s.2.1, .null, .null, .null, .null, .null] [] s.2.2 Q) (fun B hB s h => ab_X12_hangs_8 (fun b2 b4 z h => hB (b2, b4, z) h) h) h
def wm_X12_hangs (a0 : Int64) (z : tq_S) (Q : tq_O → tq_S → Prop) : Prop := ∀ v1 : Int64, v1 = (a0 &&& (-a0)) → wc_X12_hangs_8 Q a0 v1 (0 : Int64) z
theorem am_X12_hangs {K : Nat × (Nat → Int32)} {x : Nat} {z : tq_S} {Q : tq_O → tq_S → Prop} {a0 : Int64} (h : wm_X12_hangs a0 z Q) : tq_M K 2 x mm_X12_hangs [.long a0] z Q := by
  unfold wm_X12_hangs at h
  refine tq_enter (L := [.long a0, .null, .null, .null, .null, .null, .null, .null, .null, .null]) mf_X12_hangs.1 rfl rfl (Nat.le_of_ble_eq_true rfl) ?_
  refine tq_s_lload_n (kk := 0) (by decide +kernel) rfl ?_
  refine tq_s_lload_n (kk := 0) (by decide +kernel) rfl ?_
  refine tq_s_lneg (by decide +kernel) ?_
  refine tq_s_land (by decide +kernel) ?_
  refine tq_g_lstore_n (kk := 2) (fun v1 => [.long a0, .null, .long v1, .null, .null, .null, .null, .null, .null, .null]) (by decide +kernel) (by decide) (fun _ => rfl) (fun v1 ev1 => ?_)
  replace h := h v1 ev1
  refine tq_k_lc (n := 0) (v := (0 : Int64)) (by decide +kernel) (by decide +kernel) ?_
  refine tq_s_lstore (i := 4) (L9 := [.long a0, .null, .long v1, .null, .long (0 : Int64), .null, .null, .null, .null, .null]) (by decide +kernel) (by decide) rfl ?_
  exact ac_X12_hangs_8 h
def wm_J9_min_7cf53 (a0 : Int32) (a1 : Int32) (z : tq_S) (Q : tq_O → tq_S → Prop) : Prop := ((a1 < a0 → Q (.inl (some (.int a1))) z) ∧ (¬ a1 < a0 → Q (.inl (some (.int a0))) z))
theorem am_J9_min_7cf53 {K : Nat × (Nat → Int32)} {x : Nat} {z : tq_S} {Q : tq_O → tq_S → Prop} {a0 : Int32} {a1 : Int32} (h : wm_J9_min_7cf53 a0 a1 z Q) : tq_M K 0 x mm_J9_min_7cf53 [.int a0, .int a1] z Q := by
  unfold wm_J9_min_7cf53 at h
  refine tq_enter (L := [.int a0, .int a1]) mf_J9_min_7cf53.1 rfl rfl (Nat.le_of_ble_eq_true rfl) ?_
  refine tq_s_iload_n (kk := 0) (by decide +kernel) rfl ?_
  refine tq_s_iload_n (kk := 1) (by decide +kernel) rfl ?_
  refine tq_icmp_gt (off := 7) (tgt := 9) (by decide +kernel) (by decide +kernel) (fun hc => ?_) (fun hc => ?_)
  · replace h := h.1 hc
    refine tq_s_iload_n (kk := 1) (by decide +kernel) rfl ?_
    exact tq_ret_i (st := []) (by decide +kernel) rfl h
  · replace h := h.2 hc
    refine tq_s_iload_n (kk := 0) (by decide +kernel) rfl ?_
    refine tq_s_goto (off := 4) (tgt := 10) (by decide +kernel) (by decide +kernel) ?_
    exact tq_ret_i (st := []) (by decide +kernel) rfl h
def wc_X12_moved_47 (B9 : Int32 → Int32 → Int32 → tq_S → Prop) (Q : tq_O → tq_S → Prop) (a0 : Int64) (a2 : Int32) (a3 : Int32) (a4 : Int32) (z : tq_S) : Prop := ∀ v101 : Int32, v101 = a4 + (1 : Int32) → B9 a2 a3 v101 z
theorem ac_X12_moved_47 {K : Nat × (Nat → Int32)} {x : Nat} {Q : tq_O → tq_S → Prop} {B9 : Int32 → Int32 → Int32 → tq_S → Prop} {a0 : Int64} {a2 : Int32} {a3 : Int32} {a4 : Int32} {z : tq_S} (hB9 : ∀ (b2 : Int32) (b3 : Int32) (b4 : Int32) (z : tq_S), B9 b2 b3 b4 z → tq_T K 1 x mm_X12_moved 9 [.long a0, .null, .int b2, .int b3, .int b4] [] z Q) (h : wc_X12_moved_47 B9 Q a0 a2 a3 a4 z) : tq_T K 1 x mm_X12_moved 47 [.long a0, .null, .int a2, .int a3, .int a4] [] z Q := by
  unfold wc_X12_moved_47 at h
  refine tq_g_iinc (i := 4) (fun v101 => [.long a0, .null, .int a2, .int a3, .int v101]) (by decide +kernel) rfl (1 : Int32) kc_1 (fun _ => rfl) (fun v101 ev101 => ?_)
  replace h := h v101 ev101
  refine tq_s_goto (off := -41) (tgt := 9) (by decide +kernel) (by decide +kernel) ?_
  exact hB9 _ _ _ _ h
def wc_X12_moved_53 (Q : tq_O → tq_S → Prop) (a0 : Int64) (a2 : Int32) (a3 : Int32) (z : tq_S) : Prop := Q (.inl (some (.long (a0 >>> ((Int32.toInt64 (((6 : Int32) * a3) + a2)) &&& 63))))) z
theorem ac_X12_moved_53 {K : Nat × (Nat → Int32)} {x : Nat} {Q : tq_O → tq_S → Prop} {a0 : Int64} {a2 : Int32} {a3 : Int32} {z : tq_S} (h : wc_X12_moved_53 Q a0 a2 a3 z) : tq_T K 1 x mm_X12_moved 53 [.long a0, .null, .int a2, .int a3, .null] [] z Q := by
  unfold wc_X12_moved_53 at h
  refine tq_s_lload_n (kk := 0) (by decide +kernel) rfl ?_
  refine tq_k_bi (n := 6) (v := (6 : Int32)) (by decide +kernel) kb_6 ?_
  refine tq_s_iload_n (kk := 3) (by decide +kernel) rfl ?_
  refine tq_s_imul (by decide +kernel) ?_
  refine tq_s_iload_n (kk := 2) (by decide +kernel) rfl ?_
  refine tq_s_iadd (by decide +kernel) ?_
  refine tq_s_lshr (by decide +kernel) ?_
  exact tq_ret_l (st := []) (by decide +kernel) rfl h
def wb_X12_moved_9 (B9 : Int32 → Int32 → Int32 → tq_S → Prop) (Q : tq_O → tq_S → Prop) (a0 : Int64) (a2 : Int32) (a3 : Int32) (a4 : Int32) (z : tq_S) : Prop := (((36 : Int32) ≤ a4 → wc_X12_moved_53 Q a0 a2 a3 z) ∧ (¬ (36 : Int32) ≤ a4 → ((¬ ((a0 >>> ((Int32.toInt64 a4) &&& 63)) &&& (1 : Int64)) = (1 : Int64) → wc_X12_moved_47 B9 Q a0 a2 a3 a4 z) ∧ (((a0 >>> ((Int32.toInt64 a4) &&& 63)) &&& (1 : Int64)) = (1 : Int64) → wm_J9_min_7cf53 a2 (a4 - a4 / (6 : Int32) * (6 : Int32)) z (tq_wi fun r102 z101 => wm_J9_min_7cf53 a3 (a4 / (6 : Int32)) z101 (tq_wi fun r104 z103 => wc_X12_moved_47 B9 Q a0 r102 r104 a4 z103))))))
def wc_X12_moved_9 (Q : tq_O → tq_S → Prop) (a0 : Int64) (a2 : Int32) (a3 : Int32) (a4 : Int32) (z : tq_S) : Prop := tq_lp (σ := Int32 × Int32 × Int32 × tq_S) (fun B s => wb_X12_moved_9 (fun b2 b3 b4 z => B (b2, b3, b4, z)) Q a0 s.1 s.2.1 s.2.2.1 s.2.2.2) (a2, a3, a4, z)
theorem ab_X12_moved_9 {K : Nat × (Nat → Int32)} {x : Nat} {Q : tq_O → tq_S → Prop} {B9 : Int32 → Int32 → Int32 → tq_S → Prop} {a0 : Int64} {a2 : Int32} {a3 : Int32} {a4 : Int32} {z : tq_S} (hB9 : ∀ (b2 : Int32) (b3 : Int32) (b4 : Int32) (z : tq_S), B9 b2 b3 b4 z → tq_T K 1 x mm_X12_moved 9 [.long a0, .null, .int b2, .int b3, .int b4] [] z Q) (h : wb_X12_moved_9 B9 Q a0 a2 a3 a4 z) : tq_T K 1 x mm_X12_moved 9 [.long a0, .null, .int a2, .int a3, .int a4] [] z Q := by
  unfold wb_X12_moved_9 at h
  refine tq_s_iload (i := 4) (by decide +kernel) rfl ?_
  refine tq_k_bi (n := 36) (v := (36 : Int32)) (by decide +kernel) kb_36 ?_
  refine tq_icmp_ge (off := 40) (tgt := 53) (by decide +kernel) (by decide +kernel) (fun hc => ?_) (fun hc => ?_)
  · replace h := h.1 hc
    exact tq_to (tq_lk1 (tq_lk1 (tq_lk1 (tq_lk1 (tq_ld1 tq_l0))))) (ac_X12_moved_53 h)
  · replace h := h.2 hc
    refine tq_s_lload_n (kk := 0) (by decide +kernel) rfl ?_
    refine tq_s_iload (i := 4) (by decide +kernel) rfl ?_
    refine tq_s_lshr (by decide +kernel) ?_
    refine tq_k_lc (n := 1) (v := (1 : Int64)) (by decide +kernel) (by decide +kernel) ?_
    refine tq_s_land (by decide +kernel) ?_
    refine tq_k_lc (n := 1) (v := (1 : Int64)) (by decide +kernel) (by decide +kernel) ?_
    refine tq_lcmp_ne (off := 23) (tgt := 47) (by decide +kernel) (by decide +kernel) (by decide +kernel) (fun hc => ?_) (fun hc => ?_)
    · replace h := h.1 hc
      exact ac_X12_moved_47 hB9 h
    · replace h := h.2 hc
      refine tq_s_iload_n (kk := 2) (by decide +kernel) rfl ?_
      refine tq_s_iload (i := 4) (by decide +kernel) rfl ?_
      refine tq_k_bi (n := 6) (v := (6 : Int32)) (by decide +kernel) kb_6 ?_
      refine tq_s_irem (by decide +kernel) (by decide +kernel) ?_
      refine tq_callS (as := [.int a2, .int (a4 - a4 / (6 : Int32) * (6 : Int32))]) (st := []) (d1 := 0) (x1 := 0) (x2 := x) (by decide +kernel) ln_12_311 mf_J9_min_7cf53 rfl (by decide) np_J9_min_7cf53 rfl (Nat.le_of_ble_eq_true rfl) (by decide) (Nat.zero_add _).symm (tq_M_mono (am_J9_min_7cf53 h) ?_)
      refine tq_wi_e (fun r102 z101 h => ?_)
      refine tq_s_istore_n (kk := 2) (L9 := [.long a0, .null, .int r102, .int a3, .int a4]) (by decide +kernel) (by decide) rfl ?_
      refine tq_s_iload_n (kk := 3) (by decide +kernel) rfl ?_
      refine tq_s_iload (i := 4) (by decide +kernel) rfl ?_
      refine tq_k_bi (n := 6) (v := (6 : Int32)) (by decide +kernel) kb_6 ?_
      refine tq_s_idiv (by decide +kernel) (by decide +kernel) ?_
      refine tq_callS (as := [.int a3, .int (a4 / (6 : Int32))]) (st := []) (d1 := 0) (x1 := 0) (x2 := x) (by decide +kernel) ln_12_311 mf_J9_min_7cf53 rfl (by decide) np_J9_min_7cf53 rfl (Nat.le_of_ble_eq_true rfl) (by decide) (Nat.zero_add _).symm (tq_M_mono (am_J9_min_7cf53 h) ?_)
      refine tq_wi_e (fun r104 z103 h => ?_)
      refine tq_s_istore_n (kk := 3) (L9 := [.long a0, .null, .int r102, .int r104, .int a4]) (by decide +kernel) (by decide) rfl ?_
      exact ac_X12_moved_47 hB9 h
theorem ac_X12_moved_9 {K : Nat × (Nat → Int32)} {x : Nat} {Q : tq_O → tq_S → Prop} {a0 : Int64} {a2 : Int32} {a3 : Int32} {a4 : Int32} {z : tq_S} (h : wc_X12_moved_9 Q a0 a2 a3 a4 z) : tq_T K 1 x mm_X12_moved 9 [.long a0, .null, .int a2, .int a3, .int a4] [] z Q :=
  tq_lp_T (σ := Int32 × Int32 × Int32 × tq_S) (s := (a2, a3, a4, z)) (G := fun s => tq_T K 1 x mm_X12_moved 9 [.long a0, .null, .int s.1, .int s.2.1, .int s.2.2.1] [] s.2.2.2 Q) (fun B hB s h => ab_X12_moved_9 (fun b2 b3 b4 z h => hB (b2, b3, b4, z) h) h) h
def wm_X12_moved (a0 : Int64) (z : tq_S) (Q : tq_O → tq_S → Prop) : Prop := wc_X12_moved_9 Q a0 (6 : Int32) (6 : Int32) (0 : Int32) z
theorem am_X12_moved {K : Nat × (Nat → Int32)} {x : Nat} {z : tq_S} {Q : tq_O → tq_S → Prop} {a0 : Int64} (h : wm_X12_moved a0 z Q) : tq_M K 1 x mm_X12_moved [.long a0] z Q := by
  unfold wm_X12_moved at h
  refine tq_enter (L := [.long a0, .null, .null, .null, .null]) mf_X12_moved.1 rfl rfl (Nat.le_of_ble_eq_true rfl) ?_
  refine tq_k_bi (n := 6) (v := (6 : Int32)) (by decide +kernel) kb_6 ?_
  refine tq_s_istore_n (kk := 2) (L9 := [.long a0, .null, .int (6 : Int32), .null, .null]) (by decide +kernel) (by decide) rfl ?_
  refine tq_k_bi (n := 6) (v := (6 : Int32)) (by decide +kernel) kb_6 ?_
  refine tq_s_istore_n (kk := 3) (L9 := [.long a0, .null, .int (6 : Int32), .int (6 : Int32), .null]) (by decide +kernel) (by decide) rfl ?_
  refine tq_k_ic (n := 0) (v := (0 : Int32)) (by decide +kernel) kc_0 ?_
  refine tq_s_istore (i := 4) (L9 := [.long a0, .null, .int (6 : Int32), .int (6 : Int32), .int (0 : Int32)]) (by decide +kernel) (by decide) rfl ?_
  exact ac_X12_moved_9 h
def wc_X12_turned_44 (Q : tq_O → tq_S → Prop) (a2 : Int64) (z : tq_S) : Prop := wm_X12_moved a2 z (tq_wl fun r102 z101 => Q (.inl (some (.long r102))) z101)
theorem ac_X12_turned_44 {K : Nat × (Nat → Int32)} {x : Nat} {Q : tq_O → tq_S → Prop} {a2 : Int64} {z : tq_S} (h : wc_X12_turned_44 Q a2 z) : tq_T K 2 x mm_X12_turned 44 [.null, .null, .long a2, .null, .null] [] z Q := by
  unfold wc_X12_turned_44 at h
  refine tq_s_lload_n (kk := 2) (by decide +kernel) rfl ?_
  refine tq_callS (as := [.long a2]) (st := []) (d1 := 1) (x1 := 0) (x2 := x) (by decide +kernel) ln_12_316 mf_X12_moved rfl (by decide) np_X12_moved rfl (Nat.le_of_ble_eq_true rfl) (by decide) (Nat.zero_add _).symm (tq_M_mono (am_X12_moved h) ?_)
  refine tq_wl_e (fun r102 z101 h => ?_)
  exact tq_ret_l (st := []) (by decide +kernel) rfl h
def wb_X12_turned_5 (B5 : Int64 → Int32 → tq_S → Prop) (Q : tq_O → tq_S → Prop) (a0 : Int64) (a2 : Int64) (a4 : Int32) (z : tq_S) : Prop := (((36 : Int32) ≤ a4 → wc_X12_turned_44 Q a2 z) ∧ (¬ (36 : Int32) ≤ a4 → ∀ v101 : Int64, v101 = (a2 ||| (((a0 >>> ((Int32.toInt64 a4) &&& 63)) &&& (1 : Int64)) <<< ((Int32.toInt64 ((((6 : Int32) * (a4 - a4 / (6 : Int32) * (6 : Int32))) + (5 : Int32)) - (a4 / (6 : Int32)))) &&& 63))) → ∀ v102 : Int32, v102 = a4 + (1 : Int32) → B5 v101 v102 z))
def wc_X12_turned_5 (Q : tq_O → tq_S → Prop) (a0 : Int64) (a2 : Int64) (a4 : Int32) (z : tq_S) : Prop := tq_lp (σ := Int64 × Int32 × tq_S) (fun B s => wb_X12_turned_5 (fun b2 b4 z => B (b2, b4, z)) Q a0 s.1 s.2.1 s.2.2) (a2, a4, z)
theorem ab_X12_turned_5 {K : Nat × (Nat → Int32)} {x : Nat} {Q : tq_O → tq_S → Prop} {B5 : Int64 → Int32 → tq_S → Prop} {a0 : Int64} {a2 : Int64} {a4 : Int32} {z : tq_S} (hB5 : ∀ (b2 : Int64) (b4 : Int32) (z : tq_S), B5 b2 b4 z → tq_T K 2 x mm_X12_turned 5 [.long a0, .null, .long b2, .null, .int b4] [] z Q) (h : wb_X12_turned_5 B5 Q a0 a2 a4 z) : tq_T K 2 x mm_X12_turned 5 [.long a0, .null, .long a2, .null, .int a4] [] z Q := by
  unfold wb_X12_turned_5 at h
  refine tq_s_iload (i := 4) (by decide +kernel) rfl ?_
  refine tq_k_bi (n := 36) (v := (36 : Int32)) (by decide +kernel) kb_36 ?_
  refine tq_icmp_ge (off := 35) (tgt := 44) (by decide +kernel) (by decide +kernel) (fun hc => ?_) (fun hc => ?_)
  · replace h := h.1 hc
    exact tq_to (tq_ld1 (tq_lk1 (tq_lk1 (tq_lk1 (tq_ld1 tq_l0))))) (ac_X12_turned_44 h)
  · replace h := h.2 hc
    refine tq_s_lload_n (kk := 2) (by decide +kernel) rfl ?_
    refine tq_s_lload_n (kk := 0) (by decide +kernel) rfl ?_
    refine tq_s_iload (i := 4) (by decide +kernel) rfl ?_
    refine tq_s_lshr (by decide +kernel) ?_
    refine tq_k_lc (n := 1) (v := (1 : Int64)) (by decide +kernel) (by decide +kernel) ?_
    refine tq_s_land (by decide +kernel) ?_
    refine tq_k_bi (n := 6) (v := (6 : Int32)) (by decide +kernel) kb_6 ?_
    refine tq_s_iload (i := 4) (by decide +kernel) rfl ?_
    refine tq_k_bi (n := 6) (v := (6 : Int32)) (by decide +kernel) kb_6 ?_
    refine tq_s_irem (by decide +kernel) (by decide +kernel) ?_
    refine tq_s_imul (by decide +kernel) ?_
    refine tq_k_ic (n := 5) (v := (5 : Int32)) (by decide +kernel) kc_5 ?_
    refine tq_s_iadd (by decide +kernel) ?_
    refine tq_s_iload (i := 4) (by decide +kernel) rfl ?_
    refine tq_k_bi (n := 6) (v := (6 : Int32)) (by decide +kernel) kb_6 ?_
    refine tq_s_idiv (by decide +kernel) (by decide +kernel) ?_
    refine tq_s_isub (by decide +kernel) ?_
    refine tq_s_lshl (by decide +kernel) ?_
    refine tq_s_lor (by decide +kernel) ?_
    refine tq_g_lstore_n (kk := 2) (fun v101 => [.long a0, .null, .long v101, .null, .int a4]) (by decide +kernel) (by decide) (fun _ => rfl) (fun v101 ev101 => ?_)
    replace h := h v101 ev101
    refine tq_g_iinc (i := 4) (fun v102 => [.long a0, .null, .long v101, .null, .int v102]) (by decide +kernel) rfl (1 : Int32) kc_1 (fun _ => rfl) (fun v102 ev102 => ?_)
    replace h := h v102 ev102
    refine tq_s_goto (off := -36) (tgt := 5) (by decide +kernel) (by decide +kernel) ?_
    exact hB5 _ _ _ h
theorem ac_X12_turned_5 {K : Nat × (Nat → Int32)} {x : Nat} {Q : tq_O → tq_S → Prop} {a0 : Int64} {a2 : Int64} {a4 : Int32} {z : tq_S} (h : wc_X12_turned_5 Q a0 a2 a4 z) : tq_T K 2 x mm_X12_turned 5 [.long a0, .null, .long a2, .null, .int a4] [] z Q :=
  tq_lp_T (σ := Int64 × Int32 × tq_S) (s := (a2, a4, z)) (G := fun s => tq_T K 2 x mm_X12_turned 5 [.long a0, .null, .long s.1, .null, .int s.2.1] [] s.2.2 Q) (fun B hB s h => ab_X12_turned_5 (fun b2 b4 z h => hB (b2, b4, z) h) h) h
def wm_X12_turned (a0 : Int64) (z : tq_S) (Q : tq_O → tq_S → Prop) : Prop := wc_X12_turned_5 Q a0 (0 : Int64) (0 : Int32) z
theorem am_X12_turned {K : Nat × (Nat → Int32)} {x : Nat} {z : tq_S} {Q : tq_O → tq_S → Prop} {a0 : Int64} (h : wm_X12_turned a0 z Q) : tq_M K 2 x mm_X12_turned [.long a0] z Q := by
  unfold wm_X12_turned at h
  refine tq_enter (L := [.long a0, .null, .null, .null, .null]) mf_X12_turned.1 rfl rfl (Nat.le_of_ble_eq_true rfl) ?_
  refine tq_k_lc (n := 0) (v := (0 : Int64)) (by decide +kernel) (by decide +kernel) ?_
  refine tq_s_lstore_n (kk := 2) (L9 := [.long a0, .null, .long (0 : Int64), .null, .null]) (by decide +kernel) (by decide) rfl ?_
  refine tq_k_ic (n := 0) (v := (0 : Int32)) (by decide +kernel) kc_0 ?_
  refine tq_s_istore (i := 4) (L9 := [.long a0, .null, .long (0 : Int64), .null, .int (0 : Int32)]) (by decide +kernel) (by decide) rfl ?_
  exact ac_X12_turned_5 h
