def wb_L_fold_5 (K : Nat × (Nat → Int32)) (B5 : Int32 → Int32 → tq_S → Prop) (Q : tq_O → tq_S → Prop) (a1 : Int32) (a2 : Int32) (z : tq_S) : Prop := (((Int32.ofNat K.1) ≤ a2 → Q (.inl (some (.int a1))) z) ∧ (¬ (Int32.ofNat K.1) ≤ a2 → vp_in a2 K.1 ∧ ∀ v101 : Int32, v101 = (((69069 : Int32) * (a1 ^^^ ((K.2 (Int32.toNatClampNeg a2)) + ((1009 : Int32) * a2)))) + (12345 : Int32)) → ∀ v102 : Int32, v102 = (v101 ^^^ ((Int32.toUInt32 v101) >>> ((Int32.toUInt32 (13 : Int32)) &&& Int32.toUInt32 31)).toInt32) → ∀ v103 : Int32, v103 = a2 + (1 : Int32) → B5 v102 v103 z))
def wc_L_fold_5 (K : Nat × (Nat → Int32)) (Q : tq_O → tq_S → Prop) (a1 : Int32) (a2 : Int32) (z : tq_S) : Prop := tq_lp (σ := Int32 × Int32 × tq_S) (fun B s => wb_L_fold_5 K (fun b1 b2 z => B (b1, b2, z)) Q s.1 s.2.1 s.2.2) (a1, a2, z)
theorem ab_L_fold_5 {K : Nat × (Nat → Int32)} {x : Nat} {Q : tq_O → tq_S → Prop} {B5 : Int32 → Int32 → tq_S → Prop} {a1 : Int32} {a2 : Int32} {z : tq_S} (hB5 : ∀ (b1 : Int32) (b2 : Int32) (z : tq_S), B5 b1 b2 z → tq_T K 0 x mm_L_fold 5 [.ref 902, .int b1, .int b2] [] z Q) (h : wb_L_fold_5 K B5 Q a1 a2 z) : tq_T K 0 x mm_L_fold 5 [.ref 902, .int a1, .int a2] [] z Q := by
  unfold wb_L_fold_5 at h
  refine tq_s_iload_n (kk := 2) (by decide +kernel) rfl ?_
  refine tq_s_aload_n (kk := 0) (by decide +kernel) rfl ?_
  refine tq_s_calen (b := 902) (n := K.1) (f := K.2) (by decide +kernel) rfl ?_
  refine tq_icmp_ge (off := 35) (tgt := 43) (by decide +kernel) (by decide +kernel) (fun hc => ?_) (fun hc => ?_)
  · replace h := h.1 hc
    refine tq_s_iload_n (kk := 1) (by decide +kernel) rfl ?_
    exact tq_ret_i (st := []) (by decide +kernel) rfl h
  · replace h := h.2 hc
    refine tq_s_ldc (i := 117) (v := (69069 : Int32)) (by decide +kernel) (by decide +kernel) ?_
    refine tq_s_iload_n (kk := 1) (by decide +kernel) rfl ?_
    refine tq_s_aload_n (kk := 0) (by decide +kernel) rfl ?_
    refine tq_s_iload_n (kk := 2) (by decide +kernel) rfl ?_
    refine tq_s_caload (b := 902) (n := K.1) (f := K.2) (by decide +kernel) rfl h.1 ?_
    replace h := h.2
    refine tq_k_si (n := 1009) (v := (1009 : Int32)) (by decide +kernel) ks_1009 ?_
    refine tq_s_iload_n (kk := 2) (by decide +kernel) rfl ?_
    refine tq_s_imul (by decide +kernel) ?_
    refine tq_s_iadd (by decide +kernel) ?_
    refine tq_s_ixor (by decide +kernel) ?_
    refine tq_s_imul (by decide +kernel) ?_
    refine tq_k_si (n := 12345) (v := (12345 : Int32)) (by decide +kernel) ks_12345 ?_
    refine tq_s_iadd (by decide +kernel) ?_
    refine tq_g_istore_n (kk := 1) (fun v101 => [.ref 902, .int v101, .int a2]) (by decide +kernel) (by decide) (fun _ => rfl) (fun v101 ev101 => ?_)
    replace h := h v101 ev101
    refine tq_s_iload_n (kk := 1) (by decide +kernel) rfl ?_
    refine tq_s_iload_n (kk := 1) (by decide +kernel) rfl ?_
    refine tq_k_bi (n := 13) (v := (13 : Int32)) (by decide +kernel) kb_13 ?_
    refine tq_s_iushr (by decide +kernel) ?_
    refine tq_s_ixor (by decide +kernel) ?_
    refine tq_g_istore_n (kk := 1) (fun v102 => [.ref 902, .int v102, .int a2]) (by decide +kernel) (by decide) (fun _ => rfl) (fun v102 ev102 => ?_)
    replace h := h v102 ev102
    refine tq_g_iinc (i := 2) (fun v103 => [.ref 902, .int v102, .int v103]) (by decide +kernel) rfl (1 : Int32) kc_1 (fun _ => rfl) (fun v103 ev103 => ?_)
    replace h := h v103 ev103
    refine tq_s_goto (off := -35) (tgt := 5) (by decide +kernel) (by decide +kernel) ?_
    exact hB5 _ _ _ h
theorem ac_L_fold_5 {K : Nat × (Nat → Int32)} {x : Nat} {Q : tq_O → tq_S → Prop} {a1 : Int32} {a2 : Int32} {z : tq_S} (h : wc_L_fold_5 K Q a1 a2 z) : tq_T K 0 x mm_L_fold 5 [.ref 902, .int a1, .int a2] [] z Q :=
  tq_lp_T (σ := Int32 × Int32 × tq_S) (s := (a1, a2, z)) (G := fun s => tq_T K 0 x mm_L_fold 5 [.ref 902, .int s.1, .int s.2.1] [] s.2.2 Q) (fun B hB s h => ab_L_fold_5 (fun b1 b2 z h => hB (b1, b2, z) h) h) h
def wm_L_fold (K : Nat × (Nat → Int32))  (z : tq_S) (Q : tq_O → tq_S → Prop) : Prop := wc_L_fold_5 K Q (7 : Int32) (0 : Int32) z
theorem am_L_fold {K : Nat × (Nat → Int32)} {x : Nat} {z : tq_S} {Q : tq_O → tq_S → Prop}  (h : wm_L_fold K z Q) : tq_M K 0 x mm_L_fold [.ref 902] z Q := by
  unfold wm_L_fold at h
  refine tq_enter (L := [.ref 902, .null, .null]) mf_L_fold.1 rfl rfl (Nat.le_of_ble_eq_true rfl) ?_
  refine tq_k_bi (n := 7) (v := (7 : Int32)) (by decide +kernel) kb_7 ?_
  refine tq_s_istore_n (kk := 1) (L9 := [.ref 902, .int (7 : Int32), .null]) (by decide +kernel) (by decide) rfl ?_
  refine tq_k_ic (n := 0) (v := (0 : Int32)) (by decide +kernel) kc_0 ?_
  refine tq_s_istore_n (kk := 2) (L9 := [.ref 902, .int (7 : Int32), .int (0 : Int32)]) (by decide +kernel) (by decide) rfl ?_
  exact ac_L_fold_5 h
def wm_L_draw_ (a1 : Int32) (z : tq_S) (Q : tq_O → tq_S → Prop) : Prop := ∀ z1 : tq_S, z1 = tq_sai z 51 (upd (tq_ai z 51) (Int32.toNatClampNeg (0 : Int32)) (((1103515245 : Int32) * (tq_ai z 51 (Int32.toNatClampNeg (0 : Int32)))) + (12345 : Int32))) → (¬ a1 = 0) ∧ Q (.inl (some (.int ((((Int32.toUInt32 (tq_ai z1 51 (Int32.toNatClampNeg (0 : Int32)))) >>> ((Int32.toUInt32 (9 : Int32)) &&& Int32.toUInt32 31)).toInt32 &&& (65535 : Int32)) - (((Int32.toUInt32 (tq_ai z1 51 (Int32.toNatClampNeg (0 : Int32)))) >>> ((Int32.toUInt32 (9 : Int32)) &&& Int32.toUInt32 31)).toInt32 &&& (65535 : Int32)) / a1 * a1)))) z1
theorem am_L_draw_ {K : Nat × (Nat → Int32)} {x : Nat} {z : tq_S} {Q : tq_O → tq_S → Prop} {a1 : Int32} (h : wm_L_draw_ a1 z Q) : tq_M K 0 x mm_L_draw_ [.ref 51, .int a1] z Q := by
  unfold wm_L_draw_ at h
  refine tq_enter (L := [.ref 51, .int a1]) mf_L_draw_.1 rfl rfl (Nat.le_of_ble_eq_true rfl) ?_
  refine tq_s_aload_n (kk := 0) (by decide +kernel) rfl ?_
  refine tq_k_ic (n := 0) (v := (0 : Int32)) (by decide +kernel) kc_0 ?_
  refine tq_s_ldc (i := 118) (v := (1103515245 : Int32)) (by decide +kernel) (by decide +kernel) ?_
  refine tq_s_aload_n (kk := 0) (by decide +kernel) rfl ?_
  refine tq_k_ic (n := 0) (v := (0 : Int32)) (by decide +kernel) kc_0 ?_
  refine tq_s_iald (by decide +kernel) sh_51 vi_0_1 ?_
  refine tq_s_imul (by decide +kernel) ?_
  refine tq_k_si (n := 12345) (v := (12345 : Int32)) (by decide +kernel) ks_12345 ?_
  refine tq_s_iadd (by decide +kernel) ?_
  refine tq_g_iast (by decide +kernel) sh_51 vi_0_1 (fun z1 ez1 => ?_)
  replace h := h z1 ez1
  refine tq_s_aload_n (kk := 0) (by decide +kernel) rfl ?_
  refine tq_k_ic (n := 0) (v := (0 : Int32)) (by decide +kernel) kc_0 ?_
  refine tq_s_iald (by decide +kernel) sh_51 vi_0_1 ?_
  refine tq_k_bi (n := 9) (v := (9 : Int32)) (by decide +kernel) kb_9 ?_
  refine tq_s_iushr (by decide +kernel) ?_
  refine tq_s_ldc (i := 119) (v := (65535 : Int32)) (by decide +kernel) (by decide +kernel) ?_
  refine tq_s_iand (by decide +kernel) ?_
  refine tq_s_iload_n (kk := 1) (by decide +kernel) rfl ?_
  refine tq_s_irem (by decide +kernel) h.1 ?_
  replace h := h.2
  exact tq_ret_i (st := []) (by decide +kernel) rfl h
def wm_L_board (a1 : Int32) (a2 : Int32) (z : tq_S) (Q : tq_O → tq_S → Prop) : Prop := wm_X11_board a1 a2 z (fun o z1 => tq_wi (fun r2 z1 => Q (.inl (some (.int r2))) z1) o z1 ∨ (o = .inr 1 ∧ Q (.inl (some (.int (-900001 : Int32)))) z1))
theorem am_L_board {K : Nat × (Nat → Int32)} {x : Nat} {a1 : Int32} {a2 : Int32} {z : tq_S} {Q : tq_O → tq_S → Prop} (h : wm_L_board a1 a2 z Q) : tq_M K 3 (x + 1) mm_L_board [.ref 0, .int a1, .int a2] z Q := by
  unfold wm_L_board at h
  refine tq_enterH (L := [.ref 0, .int a1, .int a2, .null]) mf_L_board.1 (by decide +kernel) rfl rfl (Nat.le_of_ble_eq_true rfl) ?_
  refine tq_s_aload_n (kk := 0) (by decide +kernel) rfl ?_
  refine tq_s_iload_n (kk := 1) (by decide +kernel) rfl ?_
  refine tq_s_iload_n (kk := 2) (by decide +kernel) rfl ?_
  refine tq_callVX (as := [.int a1, .int a2]) (st := []) (d1 := 2) (x1 := 1) (x2 := x) (by decide +kernel) ln_13_7 mf_X11_board rfl sh_0 rfl (by decide) np_X11_board rfl (Nat.le_of_ble_eq_true rfl) (by decide) (Nat.add_comm _ _) (tq_M_mono (am_X11_board h) ?_)
  intro o z1 h
  rcases h with h | ⟨rfl, h⟩
  · refine Or.inl (tq_wi_e (fun r2 z1 h => ?_) o z1 h)
    exact tq_ret_i (st := []) (by decide +kernel) rfl h
  · refine Or.inr ⟨1, "java/lang/IllegalArgumentException", 7, rfl, rfl, hx_L_board_0, 3, by decide, Or.inl ⟨3, rfl, (by decide +kernel), ?_⟩⟩
    refine tq_s_ldc (i := 15) (v := (-900001 : Int32)) (by decide +kernel) (by decide +kernel) ?_
    exact tq_ret_i (st := []) (by decide +kernel) rfl h
def wm_L_form (a1 : Int32) (a2 : Int32) (z : tq_S) (Q : tq_O → tq_S → Prop) : Prop := wm_X11_form a1 a2 z (fun o z1 => tq_wi (fun r2 z1 => Q (.inl (some (.int r2))) z1) o z1 ∨ (o = .inr 1 ∧ Q (.inl (some (.int (-900001 : Int32)))) z1))
theorem am_L_form {K : Nat × (Nat → Int32)} {x : Nat} {a1 : Int32} {a2 : Int32} {z : tq_S} {Q : tq_O → tq_S → Prop} (h : wm_L_form a1 a2 z Q) : tq_M K 4 (x + 1) mm_L_form [.ref 0, .int a1, .int a2] z Q := by
  unfold wm_L_form at h
  refine tq_enterH (L := [.ref 0, .int a1, .int a2, .null]) mf_L_form.1 (by decide +kernel) rfl rfl (Nat.le_of_ble_eq_true rfl) ?_
  refine tq_s_aload_n (kk := 0) (by decide +kernel) rfl ?_
  refine tq_s_iload_n (kk := 1) (by decide +kernel) rfl ?_
  refine tq_s_iload_n (kk := 2) (by decide +kernel) rfl ?_
  refine tq_callVX (as := [.int a1, .int a2]) (st := []) (d1 := 3) (x1 := 1) (x2 := x) (by decide +kernel) ln_13_16 mf_X11_form rfl sh_0 rfl (by decide) np_X11_form rfl (Nat.le_of_ble_eq_true rfl) (by decide) (Nat.add_comm _ _) (tq_M_mono (am_X11_form h) ?_)
  intro o z1 h
  rcases h with h | ⟨rfl, h⟩
  · refine Or.inl (tq_wi_e (fun r2 z1 h => ?_) o z1 h)
    exact tq_ret_i (st := []) (by decide +kernel) rfl h
  · refine Or.inr ⟨1, "java/lang/IllegalArgumentException", 7, rfl, rfl, hx_L_form_0, 3, by decide, Or.inl ⟨3, rfl, (by decide +kernel), ?_⟩⟩
    refine tq_s_ldc (i := 15) (v := (-900001 : Int32)) (by decide +kernel) (by decide +kernel) ?_
    exact tq_ret_i (st := []) (by decide +kernel) rfl h
def wm_L_cells (a1 : Int32) (z : tq_S) (Q : tq_O → tq_S → Prop) : Prop := wm_X11_cells a1 z (fun o z1 => tq_wi (fun r2 z1 => Q (.inl (some (.int r2))) z1) o z1 ∨ (o = .inr 1 ∧ Q (.inl (some (.int (-900001 : Int32)))) z1))
theorem am_L_cells {K : Nat × (Nat → Int32)} {x : Nat} {a1 : Int32} {z : tq_S} {Q : tq_O → tq_S → Prop} (h : wm_L_cells a1 z Q) : tq_M K 3 (x + 1) mm_L_cells [.ref 0, .int a1] z Q := by
  unfold wm_L_cells at h
  refine tq_enterH (L := [.ref 0, .int a1, .null]) mf_L_cells.1 (by decide +kernel) rfl rfl (Nat.le_of_ble_eq_true rfl) ?_
  refine tq_s_aload_n (kk := 0) (by decide +kernel) rfl ?_
  refine tq_s_iload_n (kk := 1) (by decide +kernel) rfl ?_
  refine tq_callVX (as := [.int a1]) (st := []) (d1 := 2) (x1 := 1) (x2 := x) (by decide +kernel) ln_13_31 mf_X11_cells rfl sh_0 rfl (by decide) np_X11_cells rfl (Nat.le_of_ble_eq_true rfl) (by decide) (Nat.add_comm _ _) (tq_M_mono (am_X11_cells h) ?_)
  intro o z1 h
  rcases h with h | ⟨rfl, h⟩
  · refine Or.inl (tq_wi_e (fun r2 z1 h => ?_) o z1 h)
    exact tq_ret_i (st := []) (by decide +kernel) rfl h
  · refine Or.inr ⟨1, "java/lang/IllegalArgumentException", 6, rfl, rfl, hx_L_cells_0, 2, by decide, Or.inl ⟨2, rfl, (by decide +kernel), ?_⟩⟩
    refine tq_s_ldc (i := 15) (v := (-900001 : Int32)) (by decide +kernel) (by decide +kernel) ?_
    exact tq_ret_i (st := []) (by decide +kernel) rfl h
def wm_L_cut (a1 : Int32) (a2 : Int32) (z : tq_S) (Q : tq_O → tq_S → Prop) : Prop := wm_X11_cut a1 a2 z (fun o z1 => tq_wi (fun r2 z1 => Q (.inl (some (.int r2))) z1) o z1 ∨ (o = .inr 3 ∧ Q (.inl (some (.int (-900001 : Int32)))) z1))
theorem am_L_cut {K : Nat × (Nat → Int32)} {x : Nat} {a1 : Int32} {a2 : Int32} {z : tq_S} {Q : tq_O → tq_S → Prop} (h : wm_L_cut a1 a2 z Q) : tq_M K 3 (x + 1) mm_L_cut [.ref 0, .int a1, .int a2] z Q := by
  unfold wm_L_cut at h
  refine tq_enterH (L := [.ref 0, .int a1, .int a2, .null]) mf_L_cut.1 (by decide +kernel) rfl rfl (Nat.le_of_ble_eq_true rfl) ?_
  refine tq_s_aload_n (kk := 0) (by decide +kernel) rfl ?_
  refine tq_s_iload_n (kk := 1) (by decide +kernel) rfl ?_
  refine tq_s_iload_n (kk := 2) (by decide +kernel) rfl ?_
  refine tq_callVX (as := [.int a1, .int a2]) (st := []) (d1 := 2) (x1 := 1) (x2 := x) (by decide +kernel) ln_13_20 mf_X11_cut rfl sh_0 rfl (by decide) np_X11_cut rfl (Nat.le_of_ble_eq_true rfl) (by decide) (Nat.add_comm _ _) (tq_M_mono (am_X11_cut h) ?_)
  intro o z1 h
  rcases h with h | ⟨rfl, h⟩
  · refine Or.inl (tq_wi_e (fun r2 z1 h => ?_) o z1 h)
    exact tq_ret_i (st := []) (by decide +kernel) rfl h
  · refine Or.inr ⟨3, "java/lang/IndexOutOfBoundsException", 7, rfl, rfl, hx_L_cut_0, 3, by decide, Or.inl ⟨3, rfl, (by decide +kernel), ?_⟩⟩
    refine tq_s_ldc (i := 15) (v := (-900001 : Int32)) (by decide +kernel) (by decide +kernel) ?_
    exact tq_ret_i (st := []) (by decide +kernel) rfl h
def wm_L_has (a1 : Int32) (a2 : Int32) (z : tq_S) (Q : tq_O → tq_S → Prop) : Prop := wm_X11_has a1 a2 z (tq_wi fun r2 z1 => ((r2 = 0 → Q (.inl (some (.int (0 : Int32)))) z1) ∧ (¬ r2 = 0 → Q (.inl (some (.int (1 : Int32)))) z1)))
theorem am_L_has {K : Nat × (Nat → Int32)} {x : Nat} {z : tq_S} {Q : tq_O → tq_S → Prop} {a1 : Int32} {a2 : Int32} (h : wm_L_has a1 a2 z Q) : tq_M K 2 x mm_L_has [.ref 0, .int a1, .int a2] z Q := by
  unfold wm_L_has at h
  refine tq_enter (L := [.ref 0, .int a1, .int a2]) mf_L_has.1 rfl rfl (Nat.le_of_ble_eq_true rfl) ?_
  refine tq_s_aload_n (kk := 0) (by decide +kernel) rfl ?_
  refine tq_s_iload_n (kk := 1) (by decide +kernel) rfl ?_
  refine tq_s_iload_n (kk := 2) (by decide +kernel) rfl ?_
  refine tq_callV (as := [.int a1, .int a2]) (st := []) (d1 := 1) (x1 := 0) (x2 := x) (by decide +kernel) ln_13_35 mf_X11_has rfl sh_0 rfl (by decide) np_X11_has rfl (Nat.le_of_ble_eq_true rfl) (by decide) (Nat.zero_add _).symm (tq_M_mono (am_X11_has h) ?_)
  refine tq_wi_e (fun r2 z1 h => ?_)
  refine tq_if_eq (off := 7) (tgt := 13) (by decide +kernel) (by decide +kernel) (fun hc => ?_) (fun hc => ?_)
  · replace h := h.1 hc
    refine tq_k_ic (n := 0) (v := (0 : Int32)) (by decide +kernel) kc_0 ?_
    exact tq_ret_i (st := []) (by decide +kernel) rfl h
  · replace h := h.2 hc
    refine tq_k_ic (n := 1) (v := (1 : Int32)) (by decide +kernel) kc_1 ?_
    refine tq_s_goto (off := 4) (tgt := 14) (by decide +kernel) (by decide +kernel) ?_
    exact tq_ret_i (st := []) (by decide +kernel) rfl h
def wm_L_roll (a1 : Int32) (z : tq_S) (Q : tq_O → tq_S → Prop) : Prop := wm_X11_roll a1 z (fun o z1 => tq_wi (fun r2 z1 => ((r2 = 0 → Q (.inl (some (.int (0 : Int32)))) z1) ∧ (¬ r2 = 0 → Q (.inl (some (.int (1 : Int32)))) z1))) o z1 ∨ (o = .inr 4 ∧ Q (.inl (some (.int (-900001 : Int32)))) z1))
theorem am_L_roll {K : Nat × (Nat → Int32)} {x : Nat} {a1 : Int32} {z : tq_S} {Q : tq_O → tq_S → Prop} (h : wm_L_roll a1 z Q) : tq_M K 2 (x + 1) mm_L_roll [.ref 0, .int a1] z Q := by
  unfold wm_L_roll at h
  refine tq_enterH (L := [.ref 0, .int a1, .null]) mf_L_roll.1 (by decide +kernel) rfl rfl (Nat.le_of_ble_eq_true rfl) ?_
  refine tq_s_aload_n (kk := 0) (by decide +kernel) rfl ?_
  refine tq_s_iload_n (kk := 1) (by decide +kernel) rfl ?_
  refine tq_callVX (as := [.int a1]) (st := []) (d1 := 1) (x1 := 1) (x2 := x) (by decide +kernel) ln_13_25 mf_X11_roll rfl sh_0 rfl (by decide) np_X11_roll rfl (Nat.le_of_ble_eq_true rfl) (by decide) (Nat.add_comm _ _) (tq_M_mono (am_X11_roll h) ?_)
  intro o z1 h
  rcases h with h | ⟨rfl, h⟩
  · refine Or.inl (tq_wi_e (fun r2 z1 h => ?_) o z1 h)
    refine tq_if_eq (off := 7) (tgt := 12) (by decide +kernel) (by decide +kernel) (fun hc => ?_) (fun hc => ?_)
    · replace h := h.1 hc
      refine tq_k_ic (n := 0) (v := (0 : Int32)) (by decide +kernel) kc_0 ?_
      exact tq_ret_i (st := []) (by decide +kernel) rfl h
    · replace h := h.2 hc
      refine tq_k_ic (n := 1) (v := (1 : Int32)) (by decide +kernel) kc_1 ?_
      refine tq_s_goto (off := 4) (tgt := 13) (by decide +kernel) (by decide +kernel) ?_
      exact tq_ret_i (st := []) (by decide +kernel) rfl h
  · refine Or.inr ⟨4, "java/lang/UnsupportedOperationException", 14, rfl, rfl, hx_L_roll_0, 2, by decide, Or.inl ⟨2, rfl, (by decide +kernel), ?_⟩⟩
    refine tq_s_ldc (i := 15) (v := (-900001 : Int32)) (by decide +kernel) (by decide +kernel) ?_
    exact tq_ret_i (st := []) (by decide +kernel) rfl h
def wc_L_drawn_35 (Q : tq_O → tq_S → Prop) (s0 : Int32) (s1 : Int32) (x : Nat) (z : tq_S) : Prop := ∀ v101 : Int32, v101 = (s1 &&& s0) → tq_nz v101 ∧ Q (.inl (some (.int v101))) z
theorem ac_L_drawn_35 {K : Nat × (Nat → Int32)} {x : Nat} {Q : tq_O → tq_S → Prop} {s0 : Int32} {s1 : Int32} {z : tq_S} (h : wc_L_drawn_35 Q s0 s1 x z) : tq_T K 5 x mm_L_drawn 35 [.null, .null, .null, .null, .null, .null, .null, .null, .null, .null, .null] [.int s0, .int s1] z Q := by
  unfold wc_L_drawn_35 at h
  refine tq_s_iand (by decide +kernel) ?_
  refine tq_g_istore_n (kk := 2) (fun v101 => [.null, .null, .int v101, .null, .null, .null, .null, .null, .null, .null, .null]) (by decide +kernel) (by decide) (fun _ => rfl) (fun v101 ev101 => ?_)
  replace h := h v101 ev101
  refine tq_s_goto (off := 256) (tgt := 293) (by decide +kernel) (by decide +kernel) ?_
  refine tq_s_iload_n (kk := 2) (by decide +kernel) rfl ?_
  exact tq_ret_z (st := []) (ty := .boolean) (by decide +kernel) (tq_nz_f h.1).1 rfl h.2
def wc_L_drawn_80 (Q : tq_O → tq_S → Prop) (s0 : Int32) (s1 : Int32) (x : Nat) (z : tq_S) : Prop := ∀ v101 : Int32, v101 = (s1 &&& s0) → tq_nz v101 ∧ Q (.inl (some (.int v101))) z
theorem ac_L_drawn_80 {K : Nat × (Nat → Int32)} {x : Nat} {Q : tq_O → tq_S → Prop} {s0 : Int32} {s1 : Int32} {z : tq_S} (h : wc_L_drawn_80 Q s0 s1 x z) : tq_T K 5 x mm_L_drawn 80 [.null, .null, .null, .null, .null, .null, .null, .null, .null, .null, .null] [.int s0, .int s1] z Q := by
  unfold wc_L_drawn_80 at h
  refine tq_s_iand (by decide +kernel) ?_
  refine tq_g_istore_n (kk := 2) (fun v101 => [.null, .null, .int v101, .null, .null, .null, .null, .null, .null, .null, .null]) (by decide +kernel) (by decide) (fun _ => rfl) (fun v101 ev101 => ?_)
  replace h := h v101 ev101
  refine tq_s_goto (off := 211) (tgt := 293) (by decide +kernel) (by decide +kernel) ?_
  refine tq_s_iload_n (kk := 2) (by decide +kernel) rfl ?_
  exact tq_ret_z (st := []) (ty := .boolean) (by decide +kernel) (tq_nz_f h.1).1 rfl h.2
def wc_L_drawn_62 (Q : tq_O → tq_S → Prop) (s0 : Int32) (s2 : Int32) (x : Nat) (z : tq_S) : Prop := wm_L_draw_ (4 : Int32) z (tq_wi fun r102 z101 => ∃ y103 : Nat, x = y103 + 1 ∧ wm_L_form s0 ((2 : Int32) + r102) z101 (tq_wi fun r104 z105 => ((r104 ≤ 0 → wc_L_drawn_80 Q (0 : Int32) s2 y103 z105) ∧ (¬ r104 ≤ 0 → wc_L_drawn_80 Q (1 : Int32) s2 y103 z105))))
theorem ac_L_drawn_62 {K : Nat × (Nat → Int32)} {x : Nat} {Q : tq_O → tq_S → Prop} {s0 : Int32} {s2 : Int32} {z : tq_S} (h : wc_L_drawn_62 Q s0 s2 x z) : tq_T K 5 x mm_L_drawn 62 [.null, .ref 51, .null, .null, .null, .null, .null, .null, .null, .null, .null] [.int s0, .ref 0, .int s2] z Q := by
  unfold wc_L_drawn_62 at h
  refine tq_k_ic (n := 2) (v := (2 : Int32)) (by decide +kernel) kc_2 ?_
  refine tq_s_aload_n (kk := 1) (by decide +kernel) rfl ?_
  refine tq_k_ic (n := 4) (v := (4 : Int32)) (by decide +kernel) kc_4 ?_
  refine tq_callS (as := [.ref 51, .int (4 : Int32)]) (st := [.int (2 : Int32), .int s0, .ref 0, .int s2]) (d1 := 0) (x1 := 0) (x2 := x) (by decide +kernel) ln_13_129 mf_L_draw_ rfl (by decide) np_L_draw_ rfl (Nat.le_of_ble_eq_true rfl) (by decide) (Nat.zero_add _).symm (tq_M_mono (am_L_draw_ h) ?_)
  refine tq_wi_e (fun r102 z101 h => ?_)
  refine tq_s_iadd (by decide +kernel) ?_
  obtain ⟨y103, ey103, h⟩ := h
  refine tq_callSH (as := [.ref 0, .int s0, .int ((2 : Int32) + r102)]) (st := [.int s2]) (d1 := 4) (x1 := 1) (x2 := y103) (by decide +kernel) ln_13_132 mf_L_form rfl (by decide) np_L_form rfl (Nat.le_of_ble_eq_true rfl) (by decide) (ey103.trans (Nat.add_comm _ _)) (tq_M_mono (am_L_form (x := 0) h) ?_)
  refine tq_wi_e (fun r104 z105 h => ?_)
  refine tq_if_le (off := 7) (tgt := 79) (by decide +kernel) (by decide +kernel) (fun hc => ?_) (fun hc => ?_)
  · replace h := h.1 hc
    refine tq_k_ic (n := 0) (v := (0 : Int32)) (by decide +kernel) kc_0 ?_
    exact tq_to (tq_lk1 (tq_ld1 (tq_lk1 (tq_lk1 (tq_lk1 (tq_lk1 (tq_lk1 (tq_lk1 (tq_lk1 (tq_lk1 (tq_lk1 tq_l0))))))))))) (ac_L_drawn_80 h)
  · replace h := h.2 hc
    refine tq_k_ic (n := 1) (v := (1 : Int32)) (by decide +kernel) kc_1 ?_
    refine tq_s_goto (off := 4) (tgt := 80) (by decide +kernel) (by decide +kernel) ?_
    exact tq_to (tq_lk1 (tq_ld1 (tq_lk1 (tq_lk1 (tq_lk1 (tq_lk1 (tq_lk1 (tq_lk1 (tq_lk1 (tq_lk1 (tq_lk1 tq_l0))))))))))) (ac_L_drawn_80 h)
def wc_L_drawn_112 (Q : tq_O → tq_S → Prop) (s0 : Int32) (s1 : Int32) (x : Nat) (z : tq_S) : Prop := ∀ v101 : Int32, v101 = (s1 &&& s0) → tq_nz v101 ∧ Q (.inl (some (.int v101))) z
theorem ac_L_drawn_112 {K : Nat × (Nat → Int32)} {x : Nat} {Q : tq_O → tq_S → Prop} {s0 : Int32} {s1 : Int32} {z : tq_S} (h : wc_L_drawn_112 Q s0 s1 x z) : tq_T K 5 x mm_L_drawn 112 [.null, .null, .null, .null, .null, .null, .null, .null, .null, .null, .null] [.int s0, .int s1] z Q := by
  unfold wc_L_drawn_112 at h
  refine tq_s_iand (by decide +kernel) ?_
  refine tq_g_istore_n (kk := 2) (fun v101 => [.null, .null, .int v101, .null, .null, .null, .null, .null, .null, .null, .null]) (by decide +kernel) (by decide) (fun _ => rfl) (fun v101 ev101 => ?_)
  replace h := h v101 ev101
  refine tq_s_goto (off := 179) (tgt := 293) (by decide +kernel) (by decide +kernel) ?_
  refine tq_s_iload_n (kk := 2) (by decide +kernel) rfl ?_
  exact tq_ret_z (st := []) (ty := .boolean) (by decide +kernel) (tq_nz_f h.1).1 rfl h.2
def wc_L_drawn_238 (B166 : Int32 → Int32 → Nat → tq_S → Prop) (Q : tq_O → tq_S → Prop) (a4 : Int32) (a5 : Int32) (a6 : Int32) (s0 : Int32) (s1 : Int32) (x : Nat) (z : tq_S) : Prop := ∀ v101 : Int32, v101 = (s1 &&& s0) → ∀ v102 : Int32, v102 = a6 + (-1 : Int32) → B166 v101 v102 x z
theorem ac_L_drawn_238 {K : Nat × (Nat → Int32)} {x : Nat} {Q : tq_O → tq_S → Prop} {B166 : Int32 → Int32 → Nat → tq_S → Prop} {a4 : Int32} {a5 : Int32} {a6 : Int32} {s0 : Int32} {s1 : Int32} {z : tq_S} (hB166 : ∀ (b2 : Int32) (b6 : Int32) (x : Nat) (z : tq_S), B166 b2 b6 x z → tq_T K 5 x mm_L_drawn 166 [.ref 0, .ref 51, .int b2, .null, .int a4, .int a5, .int b6, .null, .null, .null, .null] [] z Q) (h : wc_L_drawn_238 B166 Q a4 a5 a6 s0 s1 x z) : tq_T K 5 x mm_L_drawn 238 [.ref 0, .ref 51, .null, .null, .int a4, .int a5, .int a6, .null, .null, .null, .null] [.int s0, .int s1] z Q := by
  unfold wc_L_drawn_238 at h
  refine tq_s_iand (by decide +kernel) ?_
  refine tq_g_istore_n (kk := 2) (fun v101 => [.ref 0, .ref 51, .int v101, .null, .int a4, .int a5, .int a6, .null, .null, .null, .null]) (by decide +kernel) (by decide) (fun _ => rfl) (fun v101 ev101 => ?_)
  replace h := h v101 ev101
  refine tq_g_iinc (i := 6) (fun v102 => [.ref 0, .ref 51, .int v101, .null, .int a4, .int a5, .int v102, .null, .null, .null, .null]) (by decide +kernel) rfl (-1 : Int32) kc_m1 (fun _ => rfl) (fun v102 ev102 => ?_)
  replace h := h v102 ev102
  refine tq_s_goto (off := -77) (tgt := 166) (by decide +kernel) (by decide +kernel) ?_
  exact hB166 _ _ _ _ h
def wc_L_drawn_233 (B166 : Int32 → Int32 → Nat → tq_S → Prop) (Q : tq_O → tq_S → Prop) (a4 : Int32) (a5 : Int32) (a6 : Int32) (s0 : Int32) (x : Nat) (z : tq_S) : Prop := wc_L_drawn_238 B166 Q a4 a5 a6 (1 : Int32) s0 x z
theorem ac_L_drawn_233 {K : Nat × (Nat → Int32)} {x : Nat} {Q : tq_O → tq_S → Prop} {B166 : Int32 → Int32 → Nat → tq_S → Prop} {a4 : Int32} {a5 : Int32} {a6 : Int32} {s0 : Int32} {z : tq_S} (hB166 : ∀ (b2 : Int32) (b6 : Int32) (x : Nat) (z : tq_S), B166 b2 b6 x z → tq_T K 5 x mm_L_drawn 166 [.ref 0, .ref 51, .int b2, .null, .int a4, .int a5, .int b6, .null, .null, .null, .null] [] z Q) (h : wc_L_drawn_233 B166 Q a4 a5 a6 s0 x z) : tq_T K 5 x mm_L_drawn 233 [.ref 0, .ref 51, .null, .null, .int a4, .int a5, .int a6, .null, .null, .null, .null] [.int s0] z Q := by
  unfold wc_L_drawn_233 at h
  refine tq_k_ic (n := 1) (v := (1 : Int32)) (by decide +kernel) kc_1 ?_
  refine tq_s_goto (off := 4) (tgt := 238) (by decide +kernel) (by decide +kernel) ?_
  exact ac_L_drawn_238 hB166 h
def wc_L_drawn_237 (B166 : Int32 → Int32 → Nat → tq_S → Prop) (Q : tq_O → tq_S → Prop) (a4 : Int32) (a5 : Int32) (a6 : Int32) (s0 : Int32) (x : Nat) (z : tq_S) : Prop := wc_L_drawn_238 B166 Q a4 a5 a6 (0 : Int32) s0 x z
theorem ac_L_drawn_237 {K : Nat × (Nat → Int32)} {x : Nat} {Q : tq_O → tq_S → Prop} {B166 : Int32 → Int32 → Nat → tq_S → Prop} {a4 : Int32} {a5 : Int32} {a6 : Int32} {s0 : Int32} {z : tq_S} (hB166 : ∀ (b2 : Int32) (b6 : Int32) (x : Nat) (z : tq_S), B166 b2 b6 x z → tq_T K 5 x mm_L_drawn 166 [.ref 0, .ref 51, .int b2, .null, .int a4, .int a5, .int b6, .null, .null, .null, .null] [] z Q) (h : wc_L_drawn_237 B166 Q a4 a5 a6 s0 x z) : tq_T K 5 x mm_L_drawn 237 [.ref 0, .ref 51, .null, .null, .int a4, .int a5, .int a6, .null, .null, .null, .null] [.int s0] z Q := by
  unfold wc_L_drawn_237 at h
  refine tq_k_ic (n := 0) (v := (0 : Int32)) (by decide +kernel) kc_0 ?_
  exact ac_L_drawn_238 hB166 h
def wc_L_drawn_283 (Q : tq_O → tq_S → Prop) (s0 : Int32) (s1 : Int32) (s2 : Int32) (x : Nat) (z : tq_S) : Prop := ((¬ s1 = s0 → ∀ v101 : Int32, v101 = (s2 &&& (0 : Int32)) → tq_nz v101 ∧ Q (.inl (some (.int v101))) z) ∧ (s1 = s0 → ∀ v102 : Int32, v102 = (s2 &&& (1 : Int32)) → tq_nz v102 ∧ Q (.inl (some (.int v102))) z))
theorem ac_L_drawn_283 {K : Nat × (Nat → Int32)} {x : Nat} {Q : tq_O → tq_S → Prop} {s0 : Int32} {s1 : Int32} {s2 : Int32} {z : tq_S} (h : wc_L_drawn_283 Q s0 s1 s2 x z) : tq_T K 5 x mm_L_drawn 283 [.null, .null, .null, .null, .null, .null, .null, .null, .null, .null, .null] [.int s0, .int s1, .int s2] z Q := by
  unfold wc_L_drawn_283 at h
  refine tq_icmp_ne (off := 7) (tgt := 290) (by decide +kernel) (by decide +kernel) (fun hc => ?_) (fun hc => ?_)
  · replace h := h.1 hc
    refine tq_k_ic (n := 0) (v := (0 : Int32)) (by decide +kernel) kc_0 ?_
    refine tq_s_iand (by decide +kernel) ?_
    refine tq_g_istore_n (kk := 2) (fun v101 => [.null, .null, .int v101, .null, .null, .null, .null, .null, .null, .null, .null]) (by decide +kernel) (by decide) (fun _ => rfl) (fun v101 ev101 => ?_)
    replace h := h v101 ev101
    refine tq_s_iload_n (kk := 2) (by decide +kernel) rfl ?_
    exact tq_ret_z (st := []) (ty := .boolean) (by decide +kernel) (tq_nz_f h.1).1 rfl h.2
  · replace h := h.2 hc
    refine tq_k_ic (n := 1) (v := (1 : Int32)) (by decide +kernel) kc_1 ?_
    refine tq_s_goto (off := 4) (tgt := 291) (by decide +kernel) (by decide +kernel) ?_
    refine tq_s_iand (by decide +kernel) ?_
    refine tq_g_istore_n (kk := 2) (fun v102 => [.null, .null, .int v102, .null, .null, .null, .null, .null, .null, .null, .null]) (by decide +kernel) (by decide) (fun _ => rfl) (fun v102 ev102 => ?_)
    replace h := h v102 ev102
    refine tq_s_iload_n (kk := 2) (by decide +kernel) rfl ?_
    exact tq_ret_z (st := []) (ty := .boolean) (by decide +kernel) (tq_nz_f h.1).1 rfl h.2
def wc_L_drawn_281 (Q : tq_O → tq_S → Prop) (s0 : Int32) (s1 : Int32) (x : Nat) (z : tq_S) : Prop := wc_L_drawn_283 Q (-900001 : Int32) s0 s1 x z
theorem ac_L_drawn_281 {K : Nat × (Nat → Int32)} {x : Nat} {Q : tq_O → tq_S → Prop} {s0 : Int32} {s1 : Int32} {z : tq_S} (h : wc_L_drawn_281 Q s0 s1 x z) : tq_T K 5 x mm_L_drawn 281 [.null, .null, .null, .null, .null, .null, .null, .null, .null, .null, .null] [.int s0, .int s1] z Q := by
  unfold wc_L_drawn_281 at h
  refine tq_s_ldc (i := 15) (v := (-900001 : Int32)) (by decide +kernel) (by decide +kernel) ?_
  exact ac_L_drawn_283 h
def wc_L_drawn_246 (Q : tq_O → tq_S → Prop) (a2 : Int32) (a4 : Int32) (x : Nat) (z : tq_S) : Prop := wm_L_draw_ (4 : Int32) z (tq_wi fun r102 z101 => ((¬ r102 = 0 → tq_nz a2 ∧ Q (.inl (some (.int a2))) z101) ∧ (r102 = 0 → ∃ y103 : Nat, x = y103 + 1 ∧ wm_L_roll (1 : Int32) z101 (tq_wi fun r104 z105 => ((¬ (a4 - a4 / (2 : Int32) * (2 : Int32)) = 0 → wc_L_drawn_281 Q r104 a2 y103 z105) ∧ ((a4 - a4 / (2 : Int32) * (2 : Int32)) = 0 → ((a4 < (4 : Int32) → wc_L_drawn_281 Q r104 a2 y103 z105) ∧ (¬ a4 < (4 : Int32) → wc_L_drawn_283 Q (0 : Int32) r104 a2 y103 z105))))))))
theorem ac_L_drawn_246 {K : Nat × (Nat → Int32)} {x : Nat} {Q : tq_O → tq_S → Prop} {a2 : Int32} {a4 : Int32} {z : tq_S} (h : wc_L_drawn_246 Q a2 a4 x z) : tq_T K 5 x mm_L_drawn 246 [.ref 0, .ref 51, .int a2, .null, .int a4, .null, .null, .null, .null, .null, .null] [] z Q := by
  unfold wc_L_drawn_246 at h
  refine tq_s_aload_n (kk := 1) (by decide +kernel) rfl ?_
  refine tq_k_ic (n := 4) (v := (4 : Int32)) (by decide +kernel) kc_4 ?_
  refine tq_callS (as := [.ref 51, .int (4 : Int32)]) (st := []) (d1 := 0) (x1 := 0) (x2 := x) (by decide +kernel) ln_13_129 mf_L_draw_ rfl (by decide) np_L_draw_ rfl (Nat.le_of_ble_eq_true rfl) (by decide) (Nat.zero_add _).symm (tq_M_mono (am_L_draw_ h) ?_)
  refine tq_wi_e (fun r102 z101 h => ?_)
  refine tq_if_ne (off := 42) (tgt := 293) (by decide +kernel) (by decide +kernel) (fun hc => ?_) (fun hc => ?_)
  · replace h := h.1 hc
    refine tq_s_iload_n (kk := 2) (by decide +kernel) rfl ?_
    exact tq_ret_z (st := []) (ty := .boolean) (by decide +kernel) (tq_nz_f h.1).1 rfl h.2
  · replace h := h.2 hc
    refine tq_s_aload_n (kk := 0) (by decide +kernel) rfl ?_
    refine tq_k_ic (n := 1) (v := (1 : Int32)) (by decide +kernel) kc_1 ?_
    obtain ⟨y103, ey103, h⟩ := h
    refine tq_callSH (as := [.ref 0, .int (1 : Int32)]) (st := []) (d1 := 2) (x1 := 1) (x2 := y103) (by decide +kernel) ln_13_145 mf_L_roll rfl (by decide) np_L_roll rfl (Nat.le_of_ble_eq_true rfl) (by decide) (ey103.trans (Nat.add_comm _ _)) (tq_M_mono (am_L_roll (x := 0) h) ?_)
    refine tq_wi_e (fun r104 z105 h => ?_)
    refine tq_s_istore (i := 6) (L9 := [.ref 0, .ref 51, .int a2, .null, .int a4, .null, .int r104, .null, .null, .null, .null]) (by decide +kernel) (by decide) rfl ?_
    refine tq_s_iload_n (kk := 2) (by decide +kernel) rfl ?_
    refine tq_s_iload (i := 6) (by decide +kernel) rfl ?_
    refine tq_s_iload (i := 4) (by decide +kernel) rfl ?_
    refine tq_k_ic (n := 2) (v := (2 : Int32)) (by decide +kernel) kc_2 ?_
    refine tq_s_irem (by decide +kernel) (by decide +kernel) ?_
    refine tq_if_ne (off := 13) (tgt := 281) (by decide +kernel) (by decide +kernel) (fun hc => ?_) (fun hc => ?_)
    · replace h := h.1 hc
      exact tq_to (tq_ld1 (tq_ld1 (tq_ld1 (tq_lk1 (tq_ld1 (tq_lk1 (tq_ld1 (tq_lk1 (tq_lk1 (tq_lk1 (tq_lk1 tq_l0))))))))))) (ac_L_drawn_281 h)
    · replace h := h.2 hc
      refine tq_s_iload (i := 4) (by decide +kernel) rfl ?_
      refine tq_k_ic (n := 4) (v := (4 : Int32)) (by decide +kernel) kc_4 ?_
      refine tq_icmp_lt (off := 7) (tgt := 281) (by decide +kernel) (by decide +kernel) (fun hc => ?_) (fun hc => ?_)
      · replace h := h.1 hc
        exact tq_to (tq_ld1 (tq_ld1 (tq_ld1 (tq_lk1 (tq_ld1 (tq_lk1 (tq_ld1 (tq_lk1 (tq_lk1 (tq_lk1 (tq_lk1 tq_l0))))))))))) (ac_L_drawn_281 h)
      · replace h := h.2 hc
        refine tq_k_ic (n := 0) (v := (0 : Int32)) (by decide +kernel) kc_0 ?_
        refine tq_s_goto (off := 5) (tgt := 283) (by decide +kernel) (by decide +kernel) ?_
        exact tq_to (tq_ld1 (tq_ld1 (tq_ld1 (tq_lk1 (tq_ld1 (tq_lk1 (tq_ld1 (tq_lk1 (tq_lk1 (tq_lk1 (tq_lk1 tq_l0))))))))))) (ac_L_drawn_283 h)
def wb_L_drawn_166 (B166 : Int32 → Int32 → Nat → tq_S → Prop) (Q : tq_O → tq_S → Prop) (a2 : Int32) (a4 : Int32) (a5 : Int32) (a6 : Int32) (x : Nat) (z : tq_S) : Prop := ((a6 ≤ 0 → wc_L_drawn_246 Q a2 a4 x z) ∧ (¬ a6 ≤ 0 → wm_L_draw_ a4 z (tq_wi fun r102 z101 => wm_L_draw_ a5 z101 (tq_wi fun r104 z103 => ∃ y105 : Nat, x = y105 + 1 ∧ wm_L_cells (97 : Int32) z103 (tq_wi fun r106 z107 => ∃ y108 : Nat, y105 = y108 + 1 ∧ wm_L_cut r102 r104 z107 (tq_wi fun r109 z110 => ((r109 = (r106 - (1 : Int32)) → wc_L_drawn_233 B166 Q a4 a5 a6 a2 y108 z110) ∧ (¬ r109 = (r106 - (1 : Int32)) → ((¬ r109 = (-900001 : Int32) → wc_L_drawn_237 B166 Q a4 a5 a6 a2 y108 z110) ∧ (r109 = (-900001 : Int32) → wm_L_has r102 r104 z110 (tq_wi fun r112 z111 => ((¬ r112 = 0 → wc_L_drawn_237 B166 Q a4 a5 a6 a2 y108 z111) ∧ (r112 = 0 → wc_L_drawn_233 B166 Q a4 a5 a6 a2 y108 z111)))))))))))))
def wc_L_drawn_166 (Q : tq_O → tq_S → Prop) (a2 : Int32) (a4 : Int32) (a5 : Int32) (a6 : Int32) (x : Nat) (z : tq_S) : Prop := tq_lp (σ := Int32 × Int32 × Nat × tq_S) (fun B s => wb_L_drawn_166 (fun b2 b6 x z => B (b2, b6, x, z)) Q s.1 a4 a5 s.2.1 s.2.2.1 s.2.2.2) (a2, a6, x, z)
theorem ab_L_drawn_166 {K : Nat × (Nat → Int32)} {x : Nat} {Q : tq_O → tq_S → Prop} {B166 : Int32 → Int32 → Nat → tq_S → Prop} {a2 : Int32} {a4 : Int32} {a5 : Int32} {a6 : Int32} {z : tq_S} (hB166 : ∀ (b2 : Int32) (b6 : Int32) (x : Nat) (z : tq_S), B166 b2 b6 x z → tq_T K 5 x mm_L_drawn 166 [.ref 0, .ref 51, .int b2, .null, .int a4, .int a5, .int b6, .null, .null, .null, .null] [] z Q) (h : wb_L_drawn_166 B166 Q a2 a4 a5 a6 x z) : tq_T K 5 x mm_L_drawn 166 [.ref 0, .ref 51, .int a2, .null, .int a4, .int a5, .int a6, .null, .null, .null, .null] [] z Q := by
  unfold wb_L_drawn_166 at h
  refine tq_s_iload (i := 6) (by decide +kernel) rfl ?_
  refine tq_if_le (off := 78) (tgt := 246) (by decide +kernel) (by decide +kernel) (fun hc => ?_) (fun hc => ?_)
  · replace h := h.1 hc
    exact tq_to (tq_lk1 (tq_lk1 (tq_lk1 (tq_lk1 (tq_lk1 (tq_ld1 (tq_ld1 (tq_lk1 (tq_lk1 (tq_lk1 (tq_lk1 tq_l0))))))))))) (ac_L_drawn_246 h)
  · replace h := h.2 hc
    refine tq_s_aload_n (kk := 1) (by decide +kernel) rfl ?_
    refine tq_s_iload (i := 4) (by decide +kernel) rfl ?_
    refine tq_callS (as := [.ref 51, .int a4]) (st := []) (d1 := 0) (x1 := 0) (x2 := x) (by decide +kernel) ln_13_129 mf_L_draw_ rfl (by decide) np_L_draw_ rfl (Nat.le_of_ble_eq_true rfl) (by decide) (Nat.zero_add _).symm (tq_M_mono (am_L_draw_ h) ?_)
    refine tq_wi_e (fun r102 z101 h => ?_)
    refine tq_s_istore (i := 7) (L9 := [.ref 0, .ref 51, .int a2, .null, .int a4, .int a5, .int a6, .int r102, .null, .null, .null]) (by decide +kernel) (by decide) rfl ?_
    refine tq_s_aload_n (kk := 1) (by decide +kernel) rfl ?_
    refine tq_s_iload (i := 5) (by decide +kernel) rfl ?_
    refine tq_callS (as := [.ref 51, .int a5]) (st := []) (d1 := 0) (x1 := 0) (x2 := x) (by decide +kernel) ln_13_129 mf_L_draw_ rfl (by decide) np_L_draw_ rfl (Nat.le_of_ble_eq_true rfl) (by decide) (Nat.zero_add _).symm (tq_M_mono (am_L_draw_ h) ?_)
    refine tq_wi_e (fun r104 z103 h => ?_)
    refine tq_s_istore (i := 8) (L9 := [.ref 0, .ref 51, .int a2, .null, .int a4, .int a5, .int a6, .int r102, .int r104, .null, .null]) (by decide +kernel) (by decide) rfl ?_
    refine tq_s_aload_n (kk := 0) (by decide +kernel) rfl ?_
    refine tq_k_bi (n := 97) (v := (97 : Int32)) (by decide +kernel) kb_97 ?_
    obtain ⟨y105, ey105, h⟩ := h
    refine tq_callSH (as := [.ref 0, .int (97 : Int32)]) (st := []) (d1 := 3) (x1 := 1) (x2 := y105) (by decide +kernel) ln_13_138 mf_L_cells rfl (by decide) np_L_cells rfl (Nat.le_of_ble_eq_true rfl) (by decide) (ey105.trans (Nat.add_comm _ _)) (tq_M_mono (am_L_cells (x := 0) h) ?_)
    refine tq_wi_e (fun r106 z107 h => ?_)
    refine tq_s_istore (i := 9) (L9 := [.ref 0, .ref 51, .int a2, .null, .int a4, .int a5, .int a6, .int r102, .int r104, .int r106, .null]) (by decide +kernel) (by decide) rfl ?_
    refine tq_s_aload_n (kk := 0) (by decide +kernel) rfl ?_
    refine tq_s_iload (i := 7) (by decide +kernel) rfl ?_
    refine tq_s_iload (i := 8) (by decide +kernel) rfl ?_
    obtain ⟨y108, ey108, h⟩ := h
    refine tq_callSH (as := [.ref 0, .int r102, .int r104]) (st := []) (d1 := 3) (x1 := 1) (x2 := y108) (by decide +kernel) ln_13_141 mf_L_cut rfl (by decide) np_L_cut rfl (Nat.le_of_ble_eq_true rfl) (by decide) (ey108.trans (Nat.add_comm _ _)) (tq_M_mono (am_L_cut (x := 0) h) ?_)
    refine tq_wi_e (fun r109 z110 h => ?_)
    refine tq_s_istore (i := 10) (L9 := [.ref 0, .ref 51, .int a2, .null, .int a4, .int a5, .int a6, .int r102, .int r104, .int r106, .int r109]) (by decide +kernel) (by decide) rfl ?_
    refine tq_s_iload_n (kk := 2) (by decide +kernel) rfl ?_
    refine tq_s_iload (i := 10) (by decide +kernel) rfl ?_
    refine tq_s_iload (i := 9) (by decide +kernel) rfl ?_
    refine tq_k_ic (n := 1) (v := (1 : Int32)) (by decide +kernel) kc_1 ?_
    refine tq_s_isub (by decide +kernel) ?_
    refine tq_icmp_eq (off := 21) (tgt := 233) (by decide +kernel) (by decide +kernel) (fun hc => ?_) (fun hc => ?_)
    · replace h := h.1 hc
      exact tq_to (tq_lk1 (tq_lk1 (tq_ld1 (tq_lk1 (tq_lk1 (tq_lk1 (tq_lk1 (tq_ld1 (tq_ld1 (tq_ld1 (tq_ld1 tq_l0))))))))))) (ac_L_drawn_233 hB166 h)
    · replace h := h.2 hc
      refine tq_s_iload (i := 10) (by decide +kernel) rfl ?_
      refine tq_s_ldc (i := 15) (v := (-900001 : Int32)) (by decide +kernel) (by decide +kernel) ?_
      refine tq_icmp_ne (off := 18) (tgt := 237) (by decide +kernel) (by decide +kernel) (fun hc => ?_) (fun hc => ?_)
      · replace h := h.1 hc
        exact tq_to (tq_lk1 (tq_lk1 (tq_ld1 (tq_lk1 (tq_lk1 (tq_lk1 (tq_lk1 (tq_ld1 (tq_ld1 (tq_ld1 (tq_ld1 tq_l0))))))))))) (ac_L_drawn_237 hB166 h)
      · replace h := h.2 hc
        refine tq_s_aload_n (kk := 0) (by decide +kernel) rfl ?_
        refine tq_s_iload (i := 7) (by decide +kernel) rfl ?_
        refine tq_s_iload (i := 8) (by decide +kernel) rfl ?_
        refine tq_callS (as := [.ref 0, .int r102, .int r104]) (st := [.int a2]) (d1 := 2) (x1 := 0) (x2 := y108) (by decide +kernel) ln_13_143 mf_L_has rfl (by decide) np_L_has rfl (Nat.le_of_ble_eq_true rfl) (by decide) (Nat.zero_add _).symm (tq_M_mono (am_L_has h) ?_)
        refine tq_wi_e (fun r112 z111 h => ?_)
        refine tq_if_ne (off := 7) (tgt := 237) (by decide +kernel) (by decide +kernel) (fun hc => ?_) (fun hc => ?_)
        · replace h := h.1 hc
          exact tq_to (tq_lk1 (tq_lk1 (tq_ld1 (tq_lk1 (tq_lk1 (tq_lk1 (tq_lk1 (tq_ld1 (tq_ld1 (tq_ld1 (tq_ld1 tq_l0))))))))))) (ac_L_drawn_237 hB166 h)
        · replace h := h.2 hc
          exact tq_to (tq_lk1 (tq_lk1 (tq_ld1 (tq_lk1 (tq_lk1 (tq_lk1 (tq_lk1 (tq_ld1 (tq_ld1 (tq_ld1 (tq_ld1 tq_l0))))))))))) (ac_L_drawn_233 hB166 h)
theorem ac_L_drawn_166 {K : Nat × (Nat → Int32)} {x : Nat} {Q : tq_O → tq_S → Prop} {a2 : Int32} {a4 : Int32} {a5 : Int32} {a6 : Int32} {z : tq_S} (h : wc_L_drawn_166 Q a2 a4 a5 a6 x z) : tq_T K 5 x mm_L_drawn 166 [.ref 0, .ref 51, .int a2, .null, .int a4, .int a5, .int a6, .null, .null, .null, .null] [] z Q :=
  tq_lp_T (σ := Int32 × Int32 × Nat × tq_S) (s := (a2, a6, x, z)) (G := fun s => tq_T K 5 s.2.2.1  mm_L_drawn 166 [.ref 0, .ref 51, .int s.1, .null, .int a4, .int a5, .int s.2.1, .null, .null, .null, .null] [] s.2.2.2 Q) (fun B hB s h => ab_L_drawn_166 (fun b2 b6 x z h => hB (b2, b6, x, z) h) h) h
def wc_L_drawn_157 (Q : tq_O → tq_S → Prop) (a4 : Int32) (a5 : Int32) (s0 : Int32) (s1 : Int32) (x : Nat) (z : tq_S) : Prop := ∀ v101 : Int32, v101 = (s1 &&& s0) → wm_L_draw_ (5 : Int32) z (tq_wi fun r103 z102 => wc_L_drawn_166 Q v101 a4 a5 r103 x z102)
theorem ac_L_drawn_157 {K : Nat × (Nat → Int32)} {x : Nat} {Q : tq_O → tq_S → Prop} {a4 : Int32} {a5 : Int32} {s0 : Int32} {s1 : Int32} {z : tq_S} (h : wc_L_drawn_157 Q a4 a5 s0 s1 x z) : tq_T K 5 x mm_L_drawn 157 [.ref 0, .ref 51, .null, .null, .int a4, .int a5, .null, .null, .null, .null, .null] [.int s0, .int s1] z Q := by
  unfold wc_L_drawn_157 at h
  refine tq_s_iand (by decide +kernel) ?_
  refine tq_g_istore_n (kk := 2) (fun v101 => [.ref 0, .ref 51, .int v101, .null, .int a4, .int a5, .null, .null, .null, .null, .null]) (by decide +kernel) (by decide) (fun _ => rfl) (fun v101 ev101 => ?_)
  replace h := h v101 ev101
  refine tq_s_aload_n (kk := 1) (by decide +kernel) rfl ?_
  refine tq_k_ic (n := 5) (v := (5 : Int32)) (by decide +kernel) kc_5 ?_
  refine tq_callS (as := [.ref 51, .int (5 : Int32)]) (st := []) (d1 := 0) (x1 := 0) (x2 := x) (by decide +kernel) ln_13_129 mf_L_draw_ rfl (by decide) np_L_draw_ rfl (Nat.le_of_ble_eq_true rfl) (by decide) (Nat.zero_add _).symm (tq_M_mono (am_L_draw_ h) ?_)
  refine tq_wi_e (fun r103 z102 h => ?_)
  refine tq_s_istore (i := 6) (L9 := [.ref 0, .ref 51, .int v101, .null, .int a4, .int a5, .int r103, .null, .null, .null, .null]) (by decide +kernel) (by decide) rfl ?_
  exact ac_L_drawn_166 h
def wm_L_drawn  (z : tq_S) (Q : tq_O → tq_S → Prop) : Prop := wm_L_draw_ (8 : Int32) z (tq_wi fun r2 z1 => ((¬ r2 = 0 → ((¬ r2 = (1 : Int32) → ((¬ r2 = (2 : Int32) → wm_L_draw_ (5 : Int32) z1 (tq_wi fun r4 z3 => ∀ v5 : Int32, v5 = ((1 : Int32) + r4) → wm_L_draw_ (5 : Int32) z3 (tq_wi fun r7 z6 => ∀ v8 : Int32, v8 = ((1 : Int32) + r7) → ∃ y9 : Nat, 40 = y9 + 1 ∧ wm_L_board v5 v8 z6 (tq_wi fun r10 z11 => ((¬ r10 = (v5 * v8) → wc_L_drawn_157 Q v5 v8 (0 : Int32) (1 : Int32) y9 z11) ∧ (r10 = (v5 * v8) → wc_L_drawn_157 Q v5 v8 (1 : Int32) (1 : Int32) y9 z11)))))) ∧ (r2 = (2 : Int32) → wm_L_draw_ (3 : Int32) z1 (tq_wi fun r13 z12 => ∃ y14 : Nat, 40 = y14 + 1 ∧ wm_L_form (111 : Int32) ((3 : Int32) + r13) z12 (tq_wi fun r15 z16 => ((r15 ≤ 0 → wc_L_drawn_112 Q (0 : Int32) (1 : Int32) y14 z16) ∧ (¬ r15 ≤ 0 → wc_L_drawn_112 Q (1 : Int32) (1 : Int32) y14 z16))))))) ∧ (r2 = (1 : Int32) → wm_L_draw_ (2 : Int32) z1 (tq_wi fun r18 z17 => ((¬ r18 = 0 → wc_L_drawn_62 Q (99 : Int32) (1 : Int32) 40 z17) ∧ (r18 = 0 → wc_L_drawn_62 Q (115 : Int32) (1 : Int32) 40 z17)))))) ∧ (r2 = 0 → wm_L_draw_ (3 : Int32) z1 (tq_wi fun r20 z19 => ∃ y21 : Nat, 40 = y21 + 1 ∧ wm_L_form (97 : Int32) ((1 : Int32) + r20) z19 (tq_wi fun r22 z23 => ((r22 ≤ 0 → wc_L_drawn_35 Q (0 : Int32) (1 : Int32) y21 z23) ∧ (¬ r22 ≤ 0 → wc_L_drawn_35 Q (1 : Int32) (1 : Int32) y21 z23)))))))
theorem am_L_drawn {K : Nat × (Nat → Int32)} {z : tq_S} {Q : tq_O → tq_S → Prop}  (h : wm_L_drawn z Q) : tq_M K 5 40 mm_L_drawn [.ref 0, .ref 51] z Q := by
  unfold wm_L_drawn at h
  refine tq_enter (L := [.ref 0, .ref 51, .null, .null, .null, .null, .null, .null, .null, .null, .null]) mf_L_drawn.1 rfl rfl (Nat.le_of_ble_eq_true rfl) ?_
  refine tq_k_ic (n := 1) (v := (1 : Int32)) (by decide +kernel) kc_1 ?_
  refine tq_s_istore_n (kk := 2) (L9 := [.ref 0, .ref 51, .int (1 : Int32), .null, .null, .null, .null, .null, .null, .null, .null]) (by decide +kernel) (by decide) rfl ?_
  refine tq_s_aload_n (kk := 1) (by decide +kernel) rfl ?_
  refine tq_k_bi (n := 8) (v := (8 : Int32)) (by decide +kernel) kb_8 ?_
  refine tq_callS (as := [.ref 51, .int (8 : Int32)]) (st := []) (d1 := 0) (x1 := 0) (x2 := 40) (by decide +kernel) ln_13_129 mf_L_draw_ rfl (by decide) np_L_draw_ rfl (Nat.le_of_ble_eq_true rfl) (by decide) (Nat.zero_add _).symm (tq_M_mono (am_L_draw_ h) ?_)
  refine tq_wi_e (fun r2 z1 h => ?_)
  refine tq_s_istore_n (kk := 3) (L9 := [.ref 0, .ref 51, .int (1 : Int32), .int r2, .null, .null, .null, .null, .null, .null, .null]) (by decide +kernel) (by decide) rfl ?_
  refine tq_s_iload_n (kk := 3) (by decide +kernel) rfl ?_
  refine tq_if_ne (off := 30) (tgt := 40) (by decide +kernel) (by decide +kernel) (fun hc => ?_) (fun hc => ?_)
  · replace h := h.1 hc
    refine tq_s_iload_n (kk := 3) (by decide +kernel) rfl ?_
    refine tq_k_ic (n := 1) (v := (1 : Int32)) (by decide +kernel) kc_1 ?_
    refine tq_icmp_ne (off := 43) (tgt := 85) (by decide +kernel) (by decide +kernel) (fun hc => ?_) (fun hc => ?_)
    · replace h := h.1 hc
      refine tq_s_iload_n (kk := 3) (by decide +kernel) rfl ?_
      refine tq_k_ic (n := 2) (v := (2 : Int32)) (by decide +kernel) kc_2 ?_
      refine tq_icmp_ne (off := 30) (tgt := 117) (by decide +kernel) (by decide +kernel) (fun hc => ?_) (fun hc => ?_)
      · replace h := h.1 hc
        refine tq_k_ic (n := 1) (v := (1 : Int32)) (by decide +kernel) kc_1 ?_
        refine tq_s_aload_n (kk := 1) (by decide +kernel) rfl ?_
        refine tq_k_ic (n := 5) (v := (5 : Int32)) (by decide +kernel) kc_5 ?_
        refine tq_callS (as := [.ref 51, .int (5 : Int32)]) (st := [.int (1 : Int32)]) (d1 := 0) (x1 := 0) (x2 := 40) (by decide +kernel) ln_13_129 mf_L_draw_ rfl (by decide) np_L_draw_ rfl (Nat.le_of_ble_eq_true rfl) (by decide) (Nat.zero_add _).symm (tq_M_mono (am_L_draw_ h) ?_)
        refine tq_wi_e (fun r4 z3 h => ?_)
        refine tq_s_iadd (by decide +kernel) ?_
        refine tq_g_istore (i := 4) (fun v5 => [.ref 0, .ref 51, .int (1 : Int32), .int r2, .int v5, .null, .null, .null, .null, .null, .null]) (by decide +kernel) (by decide) (fun _ => rfl) (fun v5 ev5 => ?_)
        replace h := h v5 ev5
        refine tq_k_ic (n := 1) (v := (1 : Int32)) (by decide +kernel) kc_1 ?_
        refine tq_s_aload_n (kk := 1) (by decide +kernel) rfl ?_
        refine tq_k_ic (n := 5) (v := (5 : Int32)) (by decide +kernel) kc_5 ?_
        refine tq_callS (as := [.ref 51, .int (5 : Int32)]) (st := [.int (1 : Int32)]) (d1 := 0) (x1 := 0) (x2 := 40) (by decide +kernel) ln_13_129 mf_L_draw_ rfl (by decide) np_L_draw_ rfl (Nat.le_of_ble_eq_true rfl) (by decide) (Nat.zero_add _).symm (tq_M_mono (am_L_draw_ h) ?_)
        refine tq_wi_e (fun r7 z6 h => ?_)
        refine tq_s_iadd (by decide +kernel) ?_
        refine tq_g_istore (i := 5) (fun v8 => [.ref 0, .ref 51, .int (1 : Int32), .int r2, .int v5, .int v8, .null, .null, .null, .null, .null]) (by decide +kernel) (by decide) (fun _ => rfl) (fun v8 ev8 => ?_)
        replace h := h v8 ev8
        refine tq_s_iload_n (kk := 2) (by decide +kernel) rfl ?_
        refine tq_s_aload_n (kk := 0) (by decide +kernel) rfl ?_
        refine tq_s_iload (i := 4) (by decide +kernel) rfl ?_
        refine tq_s_iload (i := 5) (by decide +kernel) rfl ?_
        obtain ⟨y9, ey9, h⟩ := h
        refine tq_callSH (as := [.ref 0, .int v5, .int v8]) (st := [.int (1 : Int32)]) (d1 := 3) (x1 := 1) (x2 := y9) (by decide +kernel) ln_13_135 mf_L_board rfl (by decide) np_L_board rfl (Nat.le_of_ble_eq_true rfl) (by decide) (ey9.trans (Nat.add_comm _ _)) (tq_M_mono (am_L_board (x := 0) h) ?_)
        refine tq_wi_e (fun r10 z11 h => ?_)
        refine tq_s_iload (i := 4) (by decide +kernel) rfl ?_
        refine tq_s_iload (i := 5) (by decide +kernel) rfl ?_
        refine tq_s_imul (by decide +kernel) ?_
        refine tq_icmp_ne (off := 7) (tgt := 156) (by decide +kernel) (by decide +kernel) (fun hc => ?_) (fun hc => ?_)
        · replace h := h.1 hc
          refine tq_k_ic (n := 0) (v := (0 : Int32)) (by decide +kernel) kc_0 ?_
          exact tq_to (tq_lk1 (tq_lk1 (tq_ld1 (tq_ld1 (tq_lk1 (tq_lk1 (tq_lk1 (tq_lk1 (tq_lk1 (tq_lk1 (tq_lk1 tq_l0))))))))))) (ac_L_drawn_157 h)
        · replace h := h.2 hc
          refine tq_k_ic (n := 1) (v := (1 : Int32)) (by decide +kernel) kc_1 ?_
          refine tq_s_goto (off := 4) (tgt := 157) (by decide +kernel) (by decide +kernel) ?_
          exact tq_to (tq_lk1 (tq_lk1 (tq_ld1 (tq_ld1 (tq_lk1 (tq_lk1 (tq_lk1 (tq_lk1 (tq_lk1 (tq_lk1 (tq_lk1 tq_l0))))))))))) (ac_L_drawn_157 h)
      · replace h := h.2 hc
        refine tq_s_iload_n (kk := 2) (by decide +kernel) rfl ?_
        refine tq_s_aload_n (kk := 0) (by decide +kernel) rfl ?_
        refine tq_k_bi (n := 111) (v := (111 : Int32)) (by decide +kernel) kb_111 ?_
        refine tq_k_ic (n := 3) (v := (3 : Int32)) (by decide +kernel) kc_3 ?_
        refine tq_s_aload_n (kk := 1) (by decide +kernel) rfl ?_
        refine tq_k_ic (n := 3) (v := (3 : Int32)) (by decide +kernel) kc_3 ?_
        refine tq_callS (as := [.ref 51, .int (3 : Int32)]) (st := [.int (3 : Int32), .int (111 : Int32), .ref 0, .int (1 : Int32)]) (d1 := 0) (x1 := 0) (x2 := 40) (by decide +kernel) ln_13_129 mf_L_draw_ rfl (by decide) np_L_draw_ rfl (Nat.le_of_ble_eq_true rfl) (by decide) (Nat.zero_add _).symm (tq_M_mono (am_L_draw_ h) ?_)
        refine tq_wi_e (fun r13 z12 h => ?_)
        refine tq_s_iadd (by decide +kernel) ?_
        obtain ⟨y14, ey14, h⟩ := h
        refine tq_callSH (as := [.ref 0, .int (111 : Int32), .int ((3 : Int32) + r13)]) (st := [.int (1 : Int32)]) (d1 := 4) (x1 := 1) (x2 := y14) (by decide +kernel) ln_13_132 mf_L_form rfl (by decide) np_L_form rfl (Nat.le_of_ble_eq_true rfl) (by decide) (ey14.trans (Nat.add_comm _ _)) (tq_M_mono (am_L_form (x := 0) h) ?_)
        refine tq_wi_e (fun r15 z16 h => ?_)
        refine tq_if_le (off := 7) (tgt := 111) (by decide +kernel) (by decide +kernel) (fun hc => ?_) (fun hc => ?_)
        · replace h := h.1 hc
          refine tq_k_ic (n := 0) (v := (0 : Int32)) (by decide +kernel) kc_0 ?_
          exact tq_to (tq_ld1 (tq_ld1 (tq_ld1 (tq_ld1 (tq_lk1 (tq_lk1 (tq_lk1 (tq_lk1 (tq_lk1 (tq_lk1 (tq_lk1 tq_l0))))))))))) (ac_L_drawn_112 h)
        · replace h := h.2 hc
          refine tq_k_ic (n := 1) (v := (1 : Int32)) (by decide +kernel) kc_1 ?_
          refine tq_s_goto (off := 4) (tgt := 112) (by decide +kernel) (by decide +kernel) ?_
          exact tq_to (tq_ld1 (tq_ld1 (tq_ld1 (tq_ld1 (tq_lk1 (tq_lk1 (tq_lk1 (tq_lk1 (tq_lk1 (tq_lk1 (tq_lk1 tq_l0))))))))))) (ac_L_drawn_112 h)
    · replace h := h.2 hc
      refine tq_s_iload_n (kk := 2) (by decide +kernel) rfl ?_
      refine tq_s_aload_n (kk := 0) (by decide +kernel) rfl ?_
      refine tq_s_aload_n (kk := 1) (by decide +kernel) rfl ?_
      refine tq_k_ic (n := 2) (v := (2 : Int32)) (by decide +kernel) kc_2 ?_
      refine tq_callS (as := [.ref 51, .int (2 : Int32)]) (st := [.ref 0, .int (1 : Int32)]) (d1 := 0) (x1 := 0) (x2 := 40) (by decide +kernel) ln_13_129 mf_L_draw_ rfl (by decide) np_L_draw_ rfl (Nat.le_of_ble_eq_true rfl) (by decide) (Nat.zero_add _).symm (tq_M_mono (am_L_draw_ h) ?_)
      refine tq_wi_e (fun r18 z17 h => ?_)
      refine tq_if_ne (off := 8) (tgt := 60) (by decide +kernel) (by decide +kernel) (fun hc => ?_) (fun hc => ?_)
      · replace h := h.1 hc
        refine tq_k_bi (n := 99) (v := (99 : Int32)) (by decide +kernel) kb_99 ?_
        exact tq_to (tq_ld1 (tq_lk1 (tq_ld1 (tq_ld1 (tq_lk1 (tq_lk1 (tq_lk1 (tq_lk1 (tq_lk1 (tq_lk1 (tq_lk1 tq_l0))))))))))) (ac_L_drawn_62 h)
      · replace h := h.2 hc
        refine tq_k_bi (n := 115) (v := (115 : Int32)) (by decide +kernel) kb_115 ?_
        refine tq_s_goto (off := 5) (tgt := 62) (by decide +kernel) (by decide +kernel) ?_
        exact tq_to (tq_ld1 (tq_lk1 (tq_ld1 (tq_ld1 (tq_lk1 (tq_lk1 (tq_lk1 (tq_lk1 (tq_lk1 (tq_lk1 (tq_lk1 tq_l0))))))))))) (ac_L_drawn_62 h)
  · replace h := h.2 hc
    refine tq_s_iload_n (kk := 2) (by decide +kernel) rfl ?_
    refine tq_s_aload_n (kk := 0) (by decide +kernel) rfl ?_
    refine tq_k_bi (n := 97) (v := (97 : Int32)) (by decide +kernel) kb_97 ?_
    refine tq_k_ic (n := 1) (v := (1 : Int32)) (by decide +kernel) kc_1 ?_
    refine tq_s_aload_n (kk := 1) (by decide +kernel) rfl ?_
    refine tq_k_ic (n := 3) (v := (3 : Int32)) (by decide +kernel) kc_3 ?_
    refine tq_callS (as := [.ref 51, .int (3 : Int32)]) (st := [.int (1 : Int32), .int (97 : Int32), .ref 0, .int (1 : Int32)]) (d1 := 0) (x1 := 0) (x2 := 40) (by decide +kernel) ln_13_129 mf_L_draw_ rfl (by decide) np_L_draw_ rfl (Nat.le_of_ble_eq_true rfl) (by decide) (Nat.zero_add _).symm (tq_M_mono (am_L_draw_ h) ?_)
    refine tq_wi_e (fun r20 z19 h => ?_)
    refine tq_s_iadd (by decide +kernel) ?_
    obtain ⟨y21, ey21, h⟩ := h
    refine tq_callSH (as := [.ref 0, .int (97 : Int32), .int ((1 : Int32) + r20)]) (st := [.int (1 : Int32)]) (d1 := 4) (x1 := 1) (x2 := y21) (by decide +kernel) ln_13_132 mf_L_form rfl (by decide) np_L_form rfl (Nat.le_of_ble_eq_true rfl) (by decide) (ey21.trans (Nat.add_comm _ _)) (tq_M_mono (am_L_form (x := 0) h) ?_)
    refine tq_wi_e (fun r22 z23 h => ?_)
    refine tq_if_le (off := 7) (tgt := 34) (by decide +kernel) (by decide +kernel) (fun hc => ?_) (fun hc => ?_)
    · replace h := h.1 hc
      refine tq_k_ic (n := 0) (v := (0 : Int32)) (by decide +kernel) kc_0 ?_
      exact tq_to (tq_ld1 (tq_ld1 (tq_ld1 (tq_ld1 (tq_lk1 (tq_lk1 (tq_lk1 (tq_lk1 (tq_lk1 (tq_lk1 (tq_lk1 tq_l0))))))))))) (ac_L_drawn_35 h)
    · replace h := h.2 hc
      refine tq_k_ic (n := 1) (v := (1 : Int32)) (by decide +kernel) kc_1 ?_
      refine tq_s_goto (off := 4) (tgt := 35) (by decide +kernel) (by decide +kernel) ?_
      exact tq_to (tq_ld1 (tq_ld1 (tq_ld1 (tq_ld1 (tq_lk1 (tq_lk1 (tq_lk1 (tq_lk1 (tq_lk1 (tq_lk1 (tq_lk1 tq_l0))))))))))) (ac_L_drawn_35 h)
def wm_L_covers  (z : tq_S) (Q : tq_O → tq_S → Prop) : Prop := wm_X11_covers z (tq_wi fun r2 z1 => Q (.inl (some (.int r2))) z1)
theorem am_L_covers {K : Nat × (Nat → Int32)} {x : Nat} {z : tq_S} {Q : tq_O → tq_S → Prop}  (h : wm_L_covers z Q) : tq_M K 5 x mm_L_covers [.ref 0] z Q := by
  unfold wm_L_covers at h
  refine tq_enter (L := [.ref 0]) mf_L_covers.1 rfl rfl (Nat.le_of_ble_eq_true rfl) ?_
  refine tq_s_aload_n (kk := 0) (by decide +kernel) rfl ?_
  refine tq_callV (as := []) (st := []) (d1 := 4) (x1 := 0) (x2 := x) (by decide +kernel) ln_13_39 mf_X11_covers rfl sh_0 rfl (by decide) np_X11_covers rfl (Nat.le_of_ble_eq_true rfl) (by decide) (Nat.zero_add _).symm (tq_M_mono (am_X11_covers h) ?_)
  refine tq_wi_e (fun r2 z1 h => ?_)
  exact tq_ret_i (st := []) (by decide +kernel) rfl h
def wm_L_signAt (a1 : Int32) (z : tq_S) (Q : tq_O → tq_S → Prop) : Prop := wm_X11_signAt a1 z (fun o z1 => tq_wi (fun r2 z1 => Q (.inl (some (.int r2))) z1) o z1 ∨ (o = .inr 3 ∧ Q (.inl (some (.int (-900001 : Int32)))) z1))
theorem am_L_signAt {K : Nat × (Nat → Int32)} {x : Nat} {a1 : Int32} {z : tq_S} {Q : tq_O → tq_S → Prop} (h : wm_L_signAt a1 z Q) : tq_M K 1 (x + 1) mm_L_signAt [.ref 0, .int a1] z Q := by
  unfold wm_L_signAt at h
  refine tq_enterH (L := [.ref 0, .int a1, .null]) mf_L_signAt.1 (by decide +kernel) rfl rfl (Nat.le_of_ble_eq_true rfl) ?_
  refine tq_s_aload_n (kk := 0) (by decide +kernel) rfl ?_
  refine tq_s_iload_n (kk := 1) (by decide +kernel) rfl ?_
  refine tq_callVX (as := [.int a1]) (st := []) (d1 := 0) (x1 := 1) (x2 := x) (by decide +kernel) ln_13_50 mf_X11_signAt rfl sh_0 rfl (by decide) np_X11_signAt rfl (Nat.le_of_ble_eq_true rfl) (by decide) (Nat.add_comm _ _) (tq_M_mono (am_X11_signAt h) ?_)
  intro o z1 h
  rcases h with h | ⟨rfl, h⟩
  · refine Or.inl (tq_wi_e (fun r2 z1 h => ?_) o z1 h)
    exact tq_ret_i (st := []) (by decide +kernel) rfl h
  · refine Or.inr ⟨3, "java/lang/IndexOutOfBoundsException", 6, rfl, rfl, hx_L_signAt_0, 2, by decide, Or.inl ⟨2, rfl, (by decide +kernel), ?_⟩⟩
    refine tq_s_ldc (i := 15) (v := (-900001 : Int32)) (by decide +kernel) (by decide +kernel) ?_
    exact tq_ret_i (st := []) (by decide +kernel) rfl h
def wc_L_told_70 (Q : tq_O → tq_S → Prop) (a2 : Int32) (a3 : Int64) (x : Nat) (z : tq_S) : Prop := ((a2 = 0 → Q (.inl (some (.long a3))) z) ∧ (¬ a2 = 0 → Q (.inl (some (.long (-a3)))) z))
theorem ac_L_told_70 {K : Nat × (Nat → Int32)} {x : Nat} {Q : tq_O → tq_S → Prop} {a2 : Int32} {a3 : Int64} {z : tq_S} (h : wc_L_told_70 Q a2 a3 x z) : tq_T K 2 x mm_L_told 70 [.null, .null, .int a2, .long a3, .null, .null] [] z Q := by
  unfold wc_L_told_70 at h
  refine tq_s_iload_n (kk := 2) (by decide +kernel) rfl ?_
  refine tq_if_eq (off := 8) (tgt := 79) (by decide +kernel) (by decide +kernel) (fun hc => ?_) (fun hc => ?_)
  · replace h := h.1 hc
    refine tq_s_lload_n (kk := 3) (by decide +kernel) rfl ?_
    exact tq_ret_l (st := []) (by decide +kernel) rfl h
  · replace h := h.2 hc
    refine tq_s_lload_n (kk := 3) (by decide +kernel) rfl ?_
    refine tq_s_lneg (by decide +kernel) ?_
    refine tq_s_goto (off := 4) (tgt := 80) (by decide +kernel) (by decide +kernel) ?_
    exact tq_ret_l (st := []) (by decide +kernel) rfl h
def wb_L_told_40 (B40 : Int64 → Int32 → Nat → tq_S → Prop) (Q : tq_O → tq_S → Prop) (a1 : Int32) (a2 : Int32) (a3 : Int64) (a5 : Int32) (x : Nat) (z : tq_S) : Prop := ((a1 ≤ a5 → wc_L_told_70 Q a2 a3 x z) ∧ (¬ a1 ≤ a5 → ∃ y101 : Nat, x = y101 + 1 ∧ wm_L_signAt a5 z (tq_wi fun r102 z103 => ∀ v104 : Int64, v104 = ((((10 : Int64) * a3) + (Int32.toInt64 r102)) - (48 : Int64)) → ∀ v105 : Int32, v105 = a5 + (1 : Int32) → B40 v104 v105 y101 z103)))
def wc_L_told_40 (Q : tq_O → tq_S → Prop) (a1 : Int32) (a2 : Int32) (a3 : Int64) (a5 : Int32) (x : Nat) (z : tq_S) : Prop := tq_lp (σ := Int64 × Int32 × Nat × tq_S) (fun B s => wb_L_told_40 (fun b3 b5 x z => B (b3, b5, x, z)) Q a1 a2 s.1 s.2.1 s.2.2.1 s.2.2.2) (a3, a5, x, z)
theorem ab_L_told_40 {K : Nat × (Nat → Int32)} {x : Nat} {Q : tq_O → tq_S → Prop} {B40 : Int64 → Int32 → Nat → tq_S → Prop} {a1 : Int32} {a2 : Int32} {a3 : Int64} {a5 : Int32} {z : tq_S} (hB40 : ∀ (b3 : Int64) (b5 : Int32) (x : Nat) (z : tq_S), B40 b3 b5 x z → tq_T K 2 x mm_L_told 40 [.ref 0, .int a1, .int a2, .long b3, .null, .int b5] [] z Q) (h : wb_L_told_40 B40 Q a1 a2 a3 a5 x z) : tq_T K 2 x mm_L_told 40 [.ref 0, .int a1, .int a2, .long a3, .null, .int a5] [] z Q := by
  unfold wb_L_told_40 at h
  refine tq_s_iload (i := 5) (by decide +kernel) rfl ?_
  refine tq_s_iload_n (kk := 1) (by decide +kernel) rfl ?_
  refine tq_icmp_ge (off := 27) (tgt := 70) (by decide +kernel) (by decide +kernel) (fun hc => ?_) (fun hc => ?_)
  · replace h := h.1 hc
    exact tq_to (tq_ld1 (tq_ld1 (tq_lk1 (tq_lk1 (tq_lk1 (tq_ld1 tq_l0)))))) (ac_L_told_70 h)
  · replace h := h.2 hc
    refine tq_s_ldc2 (i := 125) (v := (10 : Int64)) (by decide +kernel) (by decide +kernel) ?_
    refine tq_s_lload_n (kk := 3) (by decide +kernel) rfl ?_
    refine tq_s_lmul (by decide +kernel) ?_
    refine tq_s_aload_n (kk := 0) (by decide +kernel) rfl ?_
    refine tq_s_iload (i := 5) (by decide +kernel) rfl ?_
    obtain ⟨y101, ey101, h⟩ := h
    refine tq_callSH (as := [.ref 0, .int a5]) (st := [.long ((10 : Int64) * a3)]) (d1 := 1) (x1 := 1) (x2 := y101) (by decide +kernel) ln_13_120 mf_L_signAt rfl (by decide) np_L_signAt rfl (Nat.le_of_ble_eq_true rfl) (by decide) (ey101.trans (Nat.add_comm _ _)) (tq_M_mono (am_L_signAt (x := 0) h) ?_)
    refine tq_wi_e (fun r102 z103 h => ?_)
    refine tq_s_i2l (by decide +kernel) ?_
    refine tq_s_ladd (by decide +kernel) ?_
    refine tq_s_ldc2 (i := 127) (v := (48 : Int64)) (by decide +kernel) (by decide +kernel) ?_
    refine tq_s_lsub (by decide +kernel) ?_
    refine tq_g_lstore_n (kk := 3) (fun v104 => [.ref 0, .int a1, .int a2, .long v104, .null, .int a5]) (by decide +kernel) (by decide) (fun _ => rfl) (fun v104 ev104 => ?_)
    replace h := h v104 ev104
    refine tq_g_iinc (i := 5) (fun v105 => [.ref 0, .int a1, .int a2, .long v104, .null, .int v105]) (by decide +kernel) rfl (1 : Int32) kc_1 (fun _ => rfl) (fun v105 ev105 => ?_)
    replace h := h v105 ev105
    refine tq_s_goto (off := -27) (tgt := 40) (by decide +kernel) (by decide +kernel) ?_
    exact hB40 _ _ _ _ h
theorem ac_L_told_40 {K : Nat × (Nat → Int32)} {x : Nat} {Q : tq_O → tq_S → Prop} {a1 : Int32} {a2 : Int32} {a3 : Int64} {a5 : Int32} {z : tq_S} (h : wc_L_told_40 Q a1 a2 a3 a5 x z) : tq_T K 2 x mm_L_told 40 [.ref 0, .int a1, .int a2, .long a3, .null, .int a5] [] z Q :=
  tq_lp_T (σ := Int64 × Int32 × Nat × tq_S) (s := (a3, a5, x, z)) (G := fun s => tq_T K 2 s.2.2.1  mm_L_told 40 [.ref 0, .int a1, .int a2, .long s.1, .null, .int s.2.1] [] s.2.2.2 Q) (fun B hB s h => ab_L_told_40 (fun b3 b5 x z h => hB (b3, b5, x, z) h) h) h
def wc_L_told_38 (Q : tq_O → tq_S → Prop) (a1 : Int32) (a2 : Int32) (a3 : Int64) (s0 : Int32) (x : Nat) (z : tq_S) : Prop := wc_L_told_40 Q a1 a2 a3 s0 x z
theorem ac_L_told_38 {K : Nat × (Nat → Int32)} {x : Nat} {Q : tq_O → tq_S → Prop} {a1 : Int32} {a2 : Int32} {a3 : Int64} {s0 : Int32} {z : tq_S} (h : wc_L_told_38 Q a1 a2 a3 s0 x z) : tq_T K 2 x mm_L_told 38 [.ref 0, .int a1, .int a2, .long a3, .null, .null] [.int s0] z Q := by
  unfold wc_L_told_38 at h
  refine tq_s_istore (i := 5) (L9 := [.ref 0, .int a1, .int a2, .long a3, .null, .int s0]) (by decide +kernel) (by decide) rfl ?_
  exact ac_L_told_40 h
def wc_L_told_26 (Q : tq_O → tq_S → Prop) (a1 : Int32) (s0 : Int32) (x : Nat) (z : tq_S) : Prop := ((s0 = 0 → wc_L_told_38 Q a1 s0 (0 : Int64) (0 : Int32) x z) ∧ (¬ s0 = 0 → wc_L_told_38 Q a1 s0 (0 : Int64) (1 : Int32) x z))
theorem ac_L_told_26 {K : Nat × (Nat → Int32)} {x : Nat} {Q : tq_O → tq_S → Prop} {a1 : Int32} {s0 : Int32} {z : tq_S} (h : wc_L_told_26 Q a1 s0 x z) : tq_T K 2 x mm_L_told 26 [.ref 0, .int a1, .null, .null, .null, .null] [.int s0] z Q := by
  unfold wc_L_told_26 at h
  refine tq_s_istore_n (kk := 2) (L9 := [.ref 0, .int a1, .int s0, .null, .null, .null]) (by decide +kernel) (by decide) rfl ?_
  refine tq_k_lc (n := 0) (v := (0 : Int64)) (by decide +kernel) (by decide +kernel) ?_
  refine tq_s_lstore_n (kk := 3) (L9 := [.ref 0, .int a1, .int s0, .long (0 : Int64), .null, .null]) (by decide +kernel) (by decide) rfl ?_
  refine tq_s_iload_n (kk := 2) (by decide +kernel) rfl ?_
  refine tq_if_eq (off := 7) (tgt := 37) (by decide +kernel) (by decide +kernel) (fun hc => ?_) (fun hc => ?_)
  · replace h := h.1 hc
    refine tq_k_ic (n := 0) (v := (0 : Int32)) (by decide +kernel) kc_0 ?_
    exact ac_L_told_38 h
  · replace h := h.2 hc
    refine tq_k_ic (n := 1) (v := (1 : Int32)) (by decide +kernel) kc_1 ?_
    refine tq_s_goto (off := 4) (tgt := 38) (by decide +kernel) (by decide +kernel) ?_
    exact ac_L_told_38 h
def wc_L_told_25 (Q : tq_O → tq_S → Prop) (a1 : Int32) (x : Nat) (z : tq_S) : Prop := wc_L_told_26 Q a1 (0 : Int32) x z
theorem ac_L_told_25 {K : Nat × (Nat → Int32)} {x : Nat} {Q : tq_O → tq_S → Prop} {a1 : Int32} {z : tq_S} (h : wc_L_told_25 Q a1 x z) : tq_T K 2 x mm_L_told 25 [.ref 0, .int a1, .null, .null, .null, .null] [] z Q := by
  unfold wc_L_told_25 at h
  refine tq_k_ic (n := 0) (v := (0 : Int32)) (by decide +kernel) kc_0 ?_
  exact ac_L_told_26 h
def wm_L_told (a1 : Int32) (z : tq_S) (Q : tq_O → tq_S → Prop) : Prop := ((0 ≤ a1 → ((a1 ≤ 0 → wc_L_told_25 Q a1 400 z) ∧ (¬ a1 ≤ 0 → ∃ y1 : Nat, 400 = y1 + 1 ∧ wm_L_signAt (0 : Int32) z (tq_wi fun r2 z3 => ((¬ r2 = (45 : Int32) → wc_L_told_25 Q a1 y1 z3) ∧ (r2 = (45 : Int32) → wc_L_told_26 Q a1 (1 : Int32) y1 z3)))))) ∧ (¬ 0 ≤ a1 → Q (.inl (some (.long (Int32.toInt64 a1)))) z))
theorem am_L_told {K : Nat × (Nat → Int32)} {z : tq_S} {Q : tq_O → tq_S → Prop} {a1 : Int32} (h : wm_L_told a1 z Q) : tq_M K 2 400 mm_L_told [.ref 0, .int a1] z Q := by
  unfold wm_L_told at h
  refine tq_enter (L := [.ref 0, .int a1, .null, .null, .null, .null]) mf_L_told.1 rfl rfl (Nat.le_of_ble_eq_true rfl) ?_
  refine tq_s_iload_n (kk := 1) (by decide +kernel) rfl ?_
  refine tq_if_ge (off := 6) (tgt := 7) (by decide +kernel) (by decide +kernel) (fun hc => ?_) (fun hc => ?_)
  · replace h := h.1 hc
    refine tq_s_iload_n (kk := 1) (by decide +kernel) rfl ?_
    refine tq_if_le (off := 17) (tgt := 25) (by decide +kernel) (by decide +kernel) (fun hc => ?_) (fun hc => ?_)
    · replace h := h.1 hc
      exact ac_L_told_25 h
    · replace h := h.2 hc
      refine tq_s_aload_n (kk := 0) (by decide +kernel) rfl ?_
      refine tq_k_ic (n := 0) (v := (0 : Int32)) (by decide +kernel) kc_0 ?_
      obtain ⟨y1, ey1, h⟩ := h
      refine tq_callSH (as := [.ref 0, .int (0 : Int32)]) (st := []) (d1 := 1) (x1 := 1) (x2 := y1) (by decide +kernel) ln_13_120 mf_L_signAt rfl (by decide) np_L_signAt rfl (Nat.le_of_ble_eq_true rfl) (by decide) (ey1.trans (Nat.add_comm _ _)) (tq_M_mono (am_L_signAt (x := 0) h) ?_)
      refine tq_wi_e (fun r2 z3 h => ?_)
      refine tq_k_bi (n := 45) (v := (45 : Int32)) (by decide +kernel) kb_45 ?_
      refine tq_icmp_ne (off := 7) (tgt := 25) (by decide +kernel) (by decide +kernel) (fun hc => ?_) (fun hc => ?_)
      · replace h := h.1 hc
        exact ac_L_told_25 h
      · replace h := h.2 hc
        refine tq_k_ic (n := 1) (v := (1 : Int32)) (by decide +kernel) kc_1 ?_
        refine tq_s_goto (off := 4) (tgt := 26) (by decide +kernel) (by decide +kernel) ?_
        exact ac_L_told_26 h
  · replace h := h.2 hc
    refine tq_s_iload_n (kk := 1) (by decide +kernel) rfl ?_
    refine tq_s_i2l (by decide +kernel) ?_
    exact tq_ret_l (st := []) (by decide +kernel) rfl h
def wm_L_bySigns  (z : tq_S) (Q : tq_O → tq_S → Prop) : Prop := wm_X11_bySigns z (fun o z1 => tq_wi (fun r2 z1 => Q (.inl (some (.int r2))) z1) o z1 ∨ (o = .inr 4 ∧ Q (.inl (some (.int (-900001 : Int32)))) z1))
theorem am_L_bySigns {K : Nat × (Nat → Int32)} {x : Nat}  {z : tq_S} {Q : tq_O → tq_S → Prop} (h : wm_L_bySigns z Q) : tq_M K 6 (x + 1) mm_L_bySigns [.ref 0] z Q := by
  unfold wm_L_bySigns at h
  refine tq_enterH (L := [.ref 0, .null]) mf_L_bySigns.1 (by decide +kernel) rfl rfl (Nat.le_of_ble_eq_true rfl) ?_
  refine tq_s_aload_n (kk := 0) (by decide +kernel) rfl ?_
  refine tq_callVX (as := []) (st := []) (d1 := 5) (x1 := 1) (x2 := x) (by decide +kernel) ln_13_43 mf_X11_bySigns rfl sh_0 rfl (by decide) np_X11_bySigns rfl (Nat.le_of_ble_eq_true rfl) (by decide) (Nat.add_comm _ _) (tq_M_mono (am_X11_bySigns h) ?_)
  intro o z1 h
  rcases h with h | ⟨rfl, h⟩
  · refine Or.inl (tq_wi_e (fun r2 z1 h => ?_) o z1 h)
    exact tq_ret_i (st := []) (by decide +kernel) rfl h
  · refine Or.inr ⟨4, "java/lang/UnsupportedOperationException", 5, rfl, rfl, hx_L_bySigns_0, 1, by decide, Or.inl ⟨1, rfl, (by decide +kernel), ?_⟩⟩
    refine tq_s_ldc (i := 15) (v := (-900001 : Int32)) (by decide +kernel) (by decide +kernel) ?_
    exact tq_ret_i (st := []) (by decide +kernel) rfl h
def wm_L_having (a1 : Int32) (a2 : Int32) (a3 : Int32) (z : tq_S) (Q : tq_O → tq_S → Prop) : Prop := wm_X11_having a1 a2 a3 z (fun o z1 => tq_wi (fun r2 z1 => Q (.inl (some (.int r2))) z1) o z1 ∨ (o = .inr 3 ∧ Q (.inl (some (.int (-900001 : Int32)))) z1))
theorem am_L_having {K : Nat × (Nat → Int32)} {x : Nat} {a1 : Int32} {a2 : Int32} {a3 : Int32} {z : tq_S} {Q : tq_O → tq_S → Prop} (h : wm_L_having a1 a2 a3 z Q) : tq_M K 6 (x + 1) mm_L_having [.ref 0, .int a1, .int a2, .int a3] z Q := by
  unfold wm_L_having at h
  refine tq_enterH (L := [.ref 0, .int a1, .int a2, .int a3, .null]) mf_L_having.1 (by decide +kernel) rfl rfl (Nat.le_of_ble_eq_true rfl) ?_
  refine tq_s_aload_n (kk := 0) (by decide +kernel) rfl ?_
  refine tq_s_iload_n (kk := 1) (by decide +kernel) rfl ?_
  refine tq_s_iload_n (kk := 2) (by decide +kernel) rfl ?_
  refine tq_s_iload_n (kk := 3) (by decide +kernel) rfl ?_
  refine tq_callVX (as := [.int a1, .int a2, .int a3]) (st := []) (d1 := 5) (x1 := 1) (x2 := x) (by decide +kernel) ln_13_46 mf_X11_having rfl sh_0 rfl (by decide) np_X11_having rfl (Nat.le_of_ble_eq_true rfl) (by decide) (Nat.add_comm _ _) (tq_M_mono (am_X11_having h) ?_)
  intro o z1 h
  rcases h with h | ⟨rfl, h⟩
  · refine Or.inl (tq_wi_e (fun r2 z1 h => ?_) o z1 h)
    exact tq_ret_i (st := []) (by decide +kernel) rfl h
  · refine Or.inr ⟨3, "java/lang/IndexOutOfBoundsException", 8, rfl, rfl, hx_L_having_0, 4, by decide, Or.inr ⟨(by decide +kernel), ?_⟩⟩
    refine tq_s_ldc (i := 15) (v := (-900001 : Int32)) (by decide +kernel) (by decide +kernel) ?_
    exact tq_ret_i (st := []) (by decide +kernel) rfl h
def wc_L_leftOf_63 (Q : tq_O → tq_S → Prop) (a2 : Int32) (a3 : Int32) (x : Nat) (z : tq_S) : Prop := ∃ y101 : Nat, x = y101 + 1 ∧ wm_L_having a3 a2 (1 : Int32) z (tq_wi fun r102 z103 => ∃ y104 : Nat, y101 = y104 + 400 ∧ wm_L_told r102 z103 (tq_wl fun r105 z106 => Q (.inl (some (.long r105))) z106))
theorem ac_L_leftOf_63 {K : Nat × (Nat → Int32)} {x : Nat} {Q : tq_O → tq_S → Prop} {a2 : Int32} {a3 : Int32} {z : tq_S} (h : wc_L_leftOf_63 Q a2 a3 x z) : tq_T K 7 x mm_L_leftOf 63 [.ref 0, .null, .int a2, .int a3] [] z Q := by
  unfold wc_L_leftOf_63 at h
  refine tq_s_aload_n (kk := 0) (by decide +kernel) rfl ?_
  refine tq_s_aload_n (kk := 0) (by decide +kernel) rfl ?_
  refine tq_s_iload_n (kk := 3) (by decide +kernel) rfl ?_
  refine tq_s_iload_n (kk := 2) (by decide +kernel) rfl ?_
  refine tq_k_ic (n := 1) (v := (1 : Int32)) (by decide +kernel) kc_1 ?_
  obtain ⟨y101, ey101, h⟩ := h
  refine tq_callSH (as := [.ref 0, .int a3, .int a2, .int (1 : Int32)]) (st := [.ref 0]) (d1 := 6) (x1 := 1) (x2 := y101) (by decide +kernel) ln_13_148 mf_L_having rfl (by decide) np_L_having rfl (Nat.le_of_ble_eq_true rfl) (by decide) (ey101.trans (Nat.add_comm _ _)) (tq_M_mono (am_L_having (x := 0) h) ?_)
  refine tq_wi_e (fun r102 z103 h => ?_)
  obtain ⟨y104, ey104, h⟩ := h
  refine tq_callS (as := [.ref 0, .int r102]) (st := []) (d1 := 2) (x1 := 400) (x2 := y104) (by decide +kernel) ln_13_151 mf_L_told rfl (by decide) np_L_told rfl (Nat.le_of_ble_eq_true rfl) (by decide) (ey104.trans (Nat.add_comm _ _)) (tq_M_mono (am_L_told h) ?_)
  refine tq_wl_e (fun r105 z106 h => ?_)
  exact tq_ret_l (st := []) (by decide +kernel) rfl h
def wc_L_leftOf_75 (B21 : Int32 → Nat → tq_S → Prop) (Q : tq_O → tq_S → Prop) (a2 : Int32) (a3 : Int32) (x : Nat) (z : tq_S) : Prop := ∀ v101 : Int32, v101 = a3 + (-1 : Int32) → B21 v101 x z
theorem ac_L_leftOf_75 {K : Nat × (Nat → Int32)} {x : Nat} {Q : tq_O → tq_S → Prop} {B21 : Int32 → Nat → tq_S → Prop} {a2 : Int32} {a3 : Int32} {z : tq_S} (hB21 : ∀ (b3 : Int32) (x : Nat) (z : tq_S), B21 b3 x z → tq_T K 7 x mm_L_leftOf 21 [.ref 0, .null, .int a2, .int b3] [] z Q) (h : wc_L_leftOf_75 B21 Q a2 a3 x z) : tq_T K 7 x mm_L_leftOf 75 [.ref 0, .null, .int a2, .int a3] [] z Q := by
  unfold wc_L_leftOf_75 at h
  refine tq_g_iinc (i := 3) (fun v101 => [.ref 0, .null, .int a2, .int v101]) (by decide +kernel) rfl (-1 : Int32) kc_m1 (fun _ => rfl) (fun v101 ev101 => ?_)
  replace h := h v101 ev101
  refine tq_s_goto (off := -57) (tgt := 21) (by decide +kernel) (by decide +kernel) ?_
  exact hB21 _ _ _ h
def wb_L_leftOf_21 (B21 : Int32 → Nat → tq_S → Prop) (Q : tq_O → tq_S → Prop) (a2 : Int32) (a3 : Int32) (x : Nat) (z : tq_S) : Prop := ((a3 ≤ (1 : Int32) → Q (.inl (some (.long (0 : Int64)))) z) ∧ (¬ a3 ≤ (1 : Int32) → wm_L_has a3 a2 z (tq_wi fun r102 z101 => ((¬ r102 = (1 : Int32) → wc_L_leftOf_75 B21 Q a2 a3 x z101) ∧ (r102 = (1 : Int32) → ∃ y103 : Nat, x = y103 + 1 ∧ wm_L_having a3 a2 (1 : Int32) z101 (tq_wi fun r104 z105 => ∃ y106 : Nat, y103 = y106 + 400 ∧ wm_L_told r104 z105 (tq_wl fun r107 z108 => ((r107 < (0 : Int64) → wc_L_leftOf_75 B21 Q a2 a3 y106 z108) ∧ (¬ r107 < (0 : Int64) → wm_L_has (a3 + (1 : Int32)) a2 z108 (tq_wi fun r110 z109 => ((¬ r110 = 0 → wc_L_leftOf_75 B21 Q a2 a3 y106 z109) ∧ (r110 = 0 → wc_L_leftOf_63 Q a2 a3 y106 z109))))))))))))
def wc_L_leftOf_21 (Q : tq_O → tq_S → Prop) (a2 : Int32) (a3 : Int32) (x : Nat) (z : tq_S) : Prop := tq_lp (σ := Int32 × Nat × tq_S) (fun B s => wb_L_leftOf_21 (fun b3 x z => B (b3, x, z)) Q a2 s.1 s.2.1 s.2.2) (a3, x, z)
theorem ab_L_leftOf_21 {K : Nat × (Nat → Int32)} {x : Nat} {Q : tq_O → tq_S → Prop} {B21 : Int32 → Nat → tq_S → Prop} {a2 : Int32} {a3 : Int32} {z : tq_S} (hB21 : ∀ (b3 : Int32) (x : Nat) (z : tq_S), B21 b3 x z → tq_T K 7 x mm_L_leftOf 21 [.ref 0, .null, .int a2, .int b3] [] z Q) (h : wb_L_leftOf_21 B21 Q a2 a3 x z) : tq_T K 7 x mm_L_leftOf 21 [.ref 0, .null, .int a2, .int a3] [] z Q := by
  unfold wb_L_leftOf_21 at h
  refine tq_s_iload_n (kk := 3) (by decide +kernel) rfl ?_
  refine tq_k_ic (n := 1) (v := (1 : Int32)) (by decide +kernel) kc_1 ?_
  refine tq_icmp_le (off := 58) (tgt := 81) (by decide +kernel) (by decide +kernel) (fun hc => ?_) (fun hc => ?_)
  · replace h := h.1 hc
    refine tq_k_lc (n := 0) (v := (0 : Int64)) (by decide +kernel) (by decide +kernel) ?_
    exact tq_ret_l (st := []) (by decide +kernel) rfl h
  · replace h := h.2 hc
    refine tq_s_aload_n (kk := 0) (by decide +kernel) rfl ?_
    refine tq_s_iload_n (kk := 3) (by decide +kernel) rfl ?_
    refine tq_s_iload_n (kk := 2) (by decide +kernel) rfl ?_
    refine tq_callS (as := [.ref 0, .int a3, .int a2]) (st := []) (d1 := 2) (x1 := 0) (x2 := x) (by decide +kernel) ln_13_143 mf_L_has rfl (by decide) np_L_has rfl (Nat.le_of_ble_eq_true rfl) (by decide) (Nat.zero_add _).symm (tq_M_mono (am_L_has h) ?_)
    refine tq_wi_e (fun r102 z101 h => ?_)
    refine tq_k_ic (n := 1) (v := (1 : Int32)) (by decide +kernel) kc_1 ?_
    refine tq_icmp_ne (off := 42) (tgt := 75) (by decide +kernel) (by decide +kernel) (fun hc => ?_) (fun hc => ?_)
    · replace h := h.1 hc
      exact ac_L_leftOf_75 hB21 h
    · replace h := h.2 hc
      refine tq_s_aload_n (kk := 0) (by decide +kernel) rfl ?_
      refine tq_s_aload_n (kk := 0) (by decide +kernel) rfl ?_
      refine tq_s_iload_n (kk := 3) (by decide +kernel) rfl ?_
      refine tq_s_iload_n (kk := 2) (by decide +kernel) rfl ?_
      refine tq_k_ic (n := 1) (v := (1 : Int32)) (by decide +kernel) kc_1 ?_
      obtain ⟨y103, ey103, h⟩ := h
      refine tq_callSH (as := [.ref 0, .int a3, .int a2, .int (1 : Int32)]) (st := [.ref 0]) (d1 := 6) (x1 := 1) (x2 := y103) (by decide +kernel) ln_13_148 mf_L_having rfl (by decide) np_L_having rfl (Nat.le_of_ble_eq_true rfl) (by decide) (ey103.trans (Nat.add_comm _ _)) (tq_M_mono (am_L_having (x := 0) h) ?_)
      refine tq_wi_e (fun r104 z105 h => ?_)
      obtain ⟨y106, ey106, h⟩ := h
      refine tq_callS (as := [.ref 0, .int r104]) (st := []) (d1 := 2) (x1 := 400) (x2 := y106) (by decide +kernel) ln_13_151 mf_L_told rfl (by decide) np_L_told rfl (Nat.le_of_ble_eq_true rfl) (by decide) (ey106.trans (Nat.add_comm _ _)) (tq_M_mono (am_L_told h) ?_)
      refine tq_wl_e (fun r107 z108 h => ?_)
      refine tq_k_lc (n := 0) (v := (0 : Int64)) (by decide +kernel) (by decide +kernel) ?_
      refine tq_lcmp_lt (off := 26) (tgt := 75) (by decide +kernel) (by decide +kernel) (by decide +kernel) (fun hc => ?_) (fun hc => ?_)
      · replace h := h.1 hc
        exact ac_L_leftOf_75 hB21 h
      · replace h := h.2 hc
        refine tq_s_aload_n (kk := 0) (by decide +kernel) rfl ?_
        refine tq_s_iload_n (kk := 3) (by decide +kernel) rfl ?_
        refine tq_k_ic (n := 1) (v := (1 : Int32)) (by decide +kernel) kc_1 ?_
        refine tq_s_iadd (by decide +kernel) ?_
        refine tq_s_iload_n (kk := 2) (by decide +kernel) rfl ?_
        refine tq_callS (as := [.ref 0, .int (a3 + (1 : Int32)), .int a2]) (st := []) (d1 := 2) (x1 := 0) (x2 := y106) (by decide +kernel) ln_13_143 mf_L_has rfl (by decide) np_L_has rfl (Nat.le_of_ble_eq_true rfl) (by decide) (Nat.zero_add _).symm (tq_M_mono (am_L_has h) ?_)
        refine tq_wi_e (fun r110 z109 h => ?_)
        refine tq_if_ne (off := 15) (tgt := 75) (by decide +kernel) (by decide +kernel) (fun hc => ?_) (fun hc => ?_)
        · replace h := h.1 hc
          exact ac_L_leftOf_75 hB21 h
        · replace h := h.2 hc
          exact ac_L_leftOf_63 h
theorem ac_L_leftOf_21 {K : Nat × (Nat → Int32)} {x : Nat} {Q : tq_O → tq_S → Prop} {a2 : Int32} {a3 : Int32} {z : tq_S} (h : wc_L_leftOf_21 Q a2 a3 x z) : tq_T K 7 x mm_L_leftOf 21 [.ref 0, .null, .int a2, .int a3] [] z Q :=
  tq_lp_T (σ := Int32 × Nat × tq_S) (s := (a3, x, z)) (G := fun s => tq_T K 7 s.2.1  mm_L_leftOf 21 [.ref 0, .null, .int a2, .int s.1] [] s.2.2 Q) (fun B hB s h => ab_L_leftOf_21 (fun b3 x z h => hB (b3, x, z) h) h) h
def wm_L_leftOf (a1 : Int32) (a2 : Int32) (z : tq_S) (Q : tq_O → tq_S → Prop) : Prop := ((a1 ≤ 0 → wc_L_leftOf_21 Q a2 (7 : Int32) 3000 z) ∧ (¬ a1 ≤ 0 → ∃ y1 : Nat, 3000 = y1 + 1 ∧ wm_L_having (a1 - (1 : Int32)) a2 (1 : Int32) z (tq_wi fun r2 z3 => ∃ y4 : Nat, y1 = y4 + 400 ∧ wm_L_told r2 z3 (tq_wl fun r5 z6 => Q (.inl (some (.long r5))) z6))))
theorem am_L_leftOf {K : Nat × (Nat → Int32)} {z : tq_S} {Q : tq_O → tq_S → Prop} {a1 : Int32} {a2 : Int32} (h : wm_L_leftOf a1 a2 z Q) : tq_M K 7 3000 mm_L_leftOf [.ref 0, .int a1, .int a2] z Q := by
  unfold wm_L_leftOf at h
  refine tq_enter (L := [.ref 0, .int a1, .int a2, .null]) mf_L_leftOf.1 rfl rfl (Nat.le_of_ble_eq_true rfl) ?_
  refine tq_s_iload_n (kk := 1) (by decide +kernel) rfl ?_
  refine tq_if_le (off := 17) (tgt := 18) (by decide +kernel) (by decide +kernel) (fun hc => ?_) (fun hc => ?_)
  · replace h := h.1 hc
    refine tq_k_bi (n := 7) (v := (7 : Int32)) (by decide +kernel) kb_7 ?_
    refine tq_s_istore_n (kk := 3) (L9 := [.ref 0, .int a1, .int a2, .int (7 : Int32)]) (by decide +kernel) (by decide) rfl ?_
    exact tq_to (tq_lk1 (tq_ld1 (tq_lk1 (tq_lk1 tq_l0)))) (ac_L_leftOf_21 h)
  · replace h := h.2 hc
    refine tq_s_aload_n (kk := 0) (by decide +kernel) rfl ?_
    refine tq_s_aload_n (kk := 0) (by decide +kernel) rfl ?_
    refine tq_s_iload_n (kk := 1) (by decide +kernel) rfl ?_
    refine tq_k_ic (n := 1) (v := (1 : Int32)) (by decide +kernel) kc_1 ?_
    refine tq_s_isub (by decide +kernel) ?_
    refine tq_s_iload_n (kk := 2) (by decide +kernel) rfl ?_
    refine tq_k_ic (n := 1) (v := (1 : Int32)) (by decide +kernel) kc_1 ?_
    obtain ⟨y1, ey1, h⟩ := h
    refine tq_callSH (as := [.ref 0, .int (a1 - (1 : Int32)), .int a2, .int (1 : Int32)]) (st := [.ref 0]) (d1 := 6) (x1 := 1) (x2 := y1) (by decide +kernel) ln_13_148 mf_L_having rfl (by decide) np_L_having rfl (Nat.le_of_ble_eq_true rfl) (by decide) (ey1.trans (Nat.add_comm _ _)) (tq_M_mono (am_L_having (x := 0) h) ?_)
    refine tq_wi_e (fun r2 z3 h => ?_)
    obtain ⟨y4, ey4, h⟩ := h
    refine tq_callS (as := [.ref 0, .int r2]) (st := []) (d1 := 2) (x1 := 400) (x2 := y4) (by decide +kernel) ln_13_151 mf_L_told rfl (by decide) np_L_told rfl (Nat.le_of_ble_eq_true rfl) (by decide) (ey4.trans (Nat.add_comm _ _)) (tq_M_mono (am_L_told h) ?_)
    refine tq_wl_e (fun r5 z6 h => ?_)
    exact tq_ret_l (st := []) (by decide +kernel) rfl h
def wc_L_counts_147 (B5 : Int32 → Int32 → Nat → tq_S → Prop) (B15 : Int32 → Int32 → Nat → tq_S → Prop) (B40 : Int64 → Int32 → Nat → tq_S → Prop) (Q : tq_O → tq_S → Prop) (a1 : Int64) (a3 : Int32) (a4 : Int32) (a5 : Int32) (a8 : Int32) (s0 : Int64) (s1 : Int64) (x : Nat) (z : tq_S) : Prop := ∀ v101 : Int64, v101 = (s1 + s0) → ∀ v102 : Int32, v102 = a8 + (1 : Int32) → B40 v101 v102 x z
theorem ac_L_counts_147 {K : Nat × (Nat → Int32)} {x : Nat} {Q : tq_O → tq_S → Prop} {B5 : Int32 → Int32 → Nat → tq_S → Prop} {B15 : Int32 → Int32 → Nat → tq_S → Prop} {B40 : Int64 → Int32 → Nat → tq_S → Prop} {a1 : Int64} {a3 : Int32} {a4 : Int32} {a5 : Int32} {a8 : Int32} {s0 : Int64} {s1 : Int64} {z : tq_S} (hB5 : ∀ (b3 : Int32) (b4 : Int32) (x : Nat) (z : tq_S), B5 b3 b4 x z → tq_T K 8 x mm_L_counts 5 [.ref 0, .long a1, .null, .int b3, .int b4, .null, .null, .null, .null, .null, .null] [] z Q) (hB15 : ∀ (b3 : Int32) (b5 : Int32) (x : Nat) (z : tq_S), B15 b3 b5 x z → tq_T K 8 x mm_L_counts 15 [.ref 0, .long a1, .null, .int b3, .int a4, .int b5, .null, .null, .null, .null, .null] [] z Q) (hB40 : ∀ (b6 : Int64) (b8 : Int32) (x : Nat) (z : tq_S), B40 b6 b8 x z → tq_T K 8 x mm_L_counts 40 [.ref 0, .long a1, .null, .int a3, .int a4, .int a5, .long b6, .null, .int b8, .null, .null] [] z Q) (h : wc_L_counts_147 B5 B15 B40 Q a1 a3 a4 a5 a8 s0 s1 x z) : tq_T K 8 x mm_L_counts 147 [.ref 0, .long a1, .null, .int a3, .int a4, .int a5, .null, .null, .int a8, .null, .null] [.long s0, .long s1] z Q := by
  unfold wc_L_counts_147 at h
  refine tq_s_ladd (by decide +kernel) ?_
  refine tq_g_lstore (i := 6) (fun v101 => [.ref 0, .long a1, .null, .int a3, .int a4, .int a5, .long v101, .null, .int a8, .null, .null]) (by decide +kernel) (by decide) (fun _ => rfl) (fun v101 ev101 => ?_)
  replace h := h v101 ev101
  refine tq_g_iinc (i := 8) (fun v102 => [.ref 0, .long a1, .null, .int a3, .int a4, .int a5, .long v101, .null, .int v102, .null, .null]) (by decide +kernel) rfl (1 : Int32) kc_1 (fun _ => rfl) (fun v102 ev102 => ?_)
  replace h := h v102 ev102
  refine tq_s_goto (off := -113) (tgt := 40) (by decide +kernel) (by decide +kernel) ?_
  exact hB40 _ _ _ _ h
def wc_L_counts_130 (B5 : Int32 → Int32 → Nat → tq_S → Prop) (B15 : Int32 → Int32 → Nat → tq_S → Prop) (B40 : Int64 → Int32 → Nat → tq_S → Prop) (Q : tq_O → tq_S → Prop) (a1 : Int64) (a3 : Int32) (a4 : Int32) (a5 : Int32) (a6 : Int64) (a8 : Int32) (s0 : Int64) (x : Nat) (z : tq_S) : Prop := ((s0 ≤ (0 : Int64) → wc_L_counts_147 B5 B15 B40 Q a1 a3 a4 a5 a8 (0 : Int64) a6 x z) ∧ (¬ s0 ≤ (0 : Int64) → wc_L_counts_147 B5 B15 B40 Q a1 a3 a4 a5 a8 s0 a6 x z))
theorem ac_L_counts_130 {K : Nat × (Nat → Int32)} {x : Nat} {Q : tq_O → tq_S → Prop} {B5 : Int32 → Int32 → Nat → tq_S → Prop} {B15 : Int32 → Int32 → Nat → tq_S → Prop} {B40 : Int64 → Int32 → Nat → tq_S → Prop} {a1 : Int64} {a3 : Int32} {a4 : Int32} {a5 : Int32} {a6 : Int64} {a8 : Int32} {s0 : Int64} {z : tq_S} (hB5 : ∀ (b3 : Int32) (b4 : Int32) (x : Nat) (z : tq_S), B5 b3 b4 x z → tq_T K 8 x mm_L_counts 5 [.ref 0, .long a1, .null, .int b3, .int b4, .null, .null, .null, .null, .null, .null] [] z Q) (hB15 : ∀ (b3 : Int32) (b5 : Int32) (x : Nat) (z : tq_S), B15 b3 b5 x z → tq_T K 8 x mm_L_counts 15 [.ref 0, .long a1, .null, .int b3, .int a4, .int b5, .null, .null, .null, .null, .null] [] z Q) (hB40 : ∀ (b6 : Int64) (b8 : Int32) (x : Nat) (z : tq_S), B40 b6 b8 x z → tq_T K 8 x mm_L_counts 40 [.ref 0, .long a1, .null, .int a3, .int a4, .int a5, .long b6, .null, .int b8, .null, .null] [] z Q) (h : wc_L_counts_130 B5 B15 B40 Q a1 a3 a4 a5 a6 a8 s0 x z) : tq_T K 8 x mm_L_counts 130 [.ref 0, .long a1, .null, .int a3, .int a4, .int a5, .long a6, .null, .int a8, .null, .null] [.long s0] z Q := by
  unfold wc_L_counts_130 at h
  refine tq_s_lstore (i := 9) (L9 := [.ref 0, .long a1, .null, .int a3, .int a4, .int a5, .long a6, .null, .int a8, .long s0, .null]) (by decide +kernel) (by decide) rfl ?_
  refine tq_s_lload (i := 6) (by decide +kernel) rfl ?_
  refine tq_s_lload (i := 9) (by decide +kernel) rfl ?_
  refine tq_k_lc (n := 0) (v := (0 : Int64)) (by decide +kernel) (by decide +kernel) ?_
  refine tq_lcmp_le (off := 8) (tgt := 146) (by decide +kernel) (by decide +kernel) (by decide +kernel) (fun hc => ?_) (fun hc => ?_)
  · replace h := h.1 hc
    refine tq_k_lc (n := 0) (v := (0 : Int64)) (by decide +kernel) (by decide +kernel) ?_
    exact tq_to (tq_lk1 (tq_lk1 (tq_lk1 (tq_lk1 (tq_lk1 (tq_lk1 (tq_ld1 (tq_lk1 (tq_lk1 (tq_ld1 (tq_lk1 tq_l0))))))))))) (ac_L_counts_147 hB5 hB15 hB40 h)
  · replace h := h.2 hc
    refine tq_s_lload (i := 9) (by decide +kernel) rfl ?_
    refine tq_s_goto (off := 4) (tgt := 147) (by decide +kernel) (by decide +kernel) ?_
    exact tq_to (tq_lk1 (tq_lk1 (tq_lk1 (tq_lk1 (tq_lk1 (tq_lk1 (tq_ld1 (tq_lk1 (tq_lk1 (tq_ld1 (tq_lk1 tq_l0))))))))))) (ac_L_counts_147 hB5 hB15 hB40 h)
def wc_L_counts_171 (B5 : Int32 → Int32 → Nat → tq_S → Prop) (B15 : Int32 → Int32 → Nat → tq_S → Prop) (Q : tq_O → tq_S → Prop) (a1 : Int64) (a3 : Int32) (a4 : Int32) (a5 : Int32) (x : Nat) (z : tq_S) : Prop := ∀ v101 : Int32, v101 = a5 + (1 : Int32) → B15 a3 v101 x z
theorem ac_L_counts_171 {K : Nat × (Nat → Int32)} {x : Nat} {Q : tq_O → tq_S → Prop} {B5 : Int32 → Int32 → Nat → tq_S → Prop} {B15 : Int32 → Int32 → Nat → tq_S → Prop} {a1 : Int64} {a3 : Int32} {a4 : Int32} {a5 : Int32} {z : tq_S} (hB5 : ∀ (b3 : Int32) (b4 : Int32) (x : Nat) (z : tq_S), B5 b3 b4 x z → tq_T K 8 x mm_L_counts 5 [.ref 0, .long a1, .null, .int b3, .int b4, .null, .null, .null, .null, .null, .null] [] z Q) (hB15 : ∀ (b3 : Int32) (b5 : Int32) (x : Nat) (z : tq_S), B15 b3 b5 x z → tq_T K 8 x mm_L_counts 15 [.ref 0, .long a1, .null, .int b3, .int a4, .int b5, .null, .null, .null, .null, .null] [] z Q) (h : wc_L_counts_171 B5 B15 Q a1 a3 a4 a5 x z) : tq_T K 8 x mm_L_counts 171 [.ref 0, .long a1, .null, .int a3, .int a4, .int a5, .null, .null, .null, .null, .null] [] z Q := by
  unfold wc_L_counts_171 at h
  refine tq_g_iinc (i := 5) (fun v101 => [.ref 0, .long a1, .null, .int a3, .int a4, .int v101, .null, .null, .null, .null, .null]) (by decide +kernel) rfl (1 : Int32) kc_1 (fun _ => rfl) (fun v101 ev101 => ?_)
  replace h := h v101 ev101
  refine tq_s_goto (off := -159) (tgt := 15) (by decide +kernel) (by decide +kernel) ?_
  exact hB15 _ _ _ _ h
def wc_L_counts_169 (B5 : Int32 → Int32 → Nat → tq_S → Prop) (B15 : Int32 → Int32 → Nat → tq_S → Prop) (Q : tq_O → tq_S → Prop) (a1 : Int64) (a4 : Int32) (a5 : Int32) (s0 : Int32) (s1 : Int32) (x : Nat) (z : tq_S) : Prop := ∀ v101 : Int32, v101 = (s1 &&& s0) → wc_L_counts_171 B5 B15 Q a1 v101 a4 a5 x z
theorem ac_L_counts_169 {K : Nat × (Nat → Int32)} {x : Nat} {Q : tq_O → tq_S → Prop} {B5 : Int32 → Int32 → Nat → tq_S → Prop} {B15 : Int32 → Int32 → Nat → tq_S → Prop} {a1 : Int64} {a4 : Int32} {a5 : Int32} {s0 : Int32} {s1 : Int32} {z : tq_S} (hB5 : ∀ (b3 : Int32) (b4 : Int32) (x : Nat) (z : tq_S), B5 b3 b4 x z → tq_T K 8 x mm_L_counts 5 [.ref 0, .long a1, .null, .int b3, .int b4, .null, .null, .null, .null, .null, .null] [] z Q) (hB15 : ∀ (b3 : Int32) (b5 : Int32) (x : Nat) (z : tq_S), B15 b3 b5 x z → tq_T K 8 x mm_L_counts 15 [.ref 0, .long a1, .null, .int b3, .int a4, .int b5, .null, .null, .null, .null, .null] [] z Q) (h : wc_L_counts_169 B5 B15 Q a1 a4 a5 s0 s1 x z) : tq_T K 8 x mm_L_counts 169 [.ref 0, .long a1, .null, .null, .int a4, .int a5, .null, .null, .null, .null, .null] [.int s0, .int s1] z Q := by
  unfold wc_L_counts_169 at h
  refine tq_s_iand (by decide +kernel) ?_
  refine tq_g_istore_n (kk := 3) (fun v101 => [.ref 0, .long a1, .null, .int v101, .int a4, .int a5, .null, .null, .null, .null, .null]) (by decide +kernel) (by decide) (fun _ => rfl) (fun v101 ev101 => ?_)
  replace h := h v101 ev101
  exact ac_L_counts_171 hB5 hB15 h
def wc_L_counts_156 (B5 : Int32 → Int32 → Nat → tq_S → Prop) (B15 : Int32 → Int32 → Nat → tq_S → Prop) (Q : tq_O → tq_S → Prop) (a1 : Int64) (a3 : Int32) (a4 : Int32) (a5 : Int32) (a6 : Int64) (x : Nat) (z : tq_S) : Prop := ((¬ a6 = a1 → wc_L_counts_169 B5 B15 Q a1 a4 a5 (0 : Int32) a3 x z) ∧ (a6 = a1 → wc_L_counts_169 B5 B15 Q a1 a4 a5 (1 : Int32) a3 x z))
theorem ac_L_counts_156 {K : Nat × (Nat → Int32)} {x : Nat} {Q : tq_O → tq_S → Prop} {B5 : Int32 → Int32 → Nat → tq_S → Prop} {B15 : Int32 → Int32 → Nat → tq_S → Prop} {a1 : Int64} {a3 : Int32} {a4 : Int32} {a5 : Int32} {a6 : Int64} {z : tq_S} (hB5 : ∀ (b3 : Int32) (b4 : Int32) (x : Nat) (z : tq_S), B5 b3 b4 x z → tq_T K 8 x mm_L_counts 5 [.ref 0, .long a1, .null, .int b3, .int b4, .null, .null, .null, .null, .null, .null] [] z Q) (hB15 : ∀ (b3 : Int32) (b5 : Int32) (x : Nat) (z : tq_S), B15 b3 b5 x z → tq_T K 8 x mm_L_counts 15 [.ref 0, .long a1, .null, .int b3, .int a4, .int b5, .null, .null, .null, .null, .null] [] z Q) (h : wc_L_counts_156 B5 B15 Q a1 a3 a4 a5 a6 x z) : tq_T K 8 x mm_L_counts 156 [.ref 0, .long a1, .null, .int a3, .int a4, .int a5, .long a6, .null, .null, .null, .null] [] z Q := by
  unfold wc_L_counts_156 at h
  refine tq_s_iload_n (kk := 3) (by decide +kernel) rfl ?_
  refine tq_s_lload (i := 6) (by decide +kernel) rfl ?_
  refine tq_s_lload_n (kk := 1) (by decide +kernel) rfl ?_
  refine tq_lcmp_ne (off := 7) (tgt := 168) (by decide +kernel) (by decide +kernel) (by decide +kernel) (fun hc => ?_) (fun hc => ?_)
  · replace h := h.1 hc
    refine tq_k_ic (n := 0) (v := (0 : Int32)) (by decide +kernel) kc_0 ?_
    exact tq_to (tq_lk1 (tq_lk1 (tq_lk1 (tq_ld1 (tq_lk1 (tq_lk1 (tq_ld1 (tq_lk1 (tq_lk1 (tq_lk1 (tq_lk1 tq_l0))))))))))) (ac_L_counts_169 hB5 hB15 h)
  · replace h := h.2 hc
    refine tq_k_ic (n := 1) (v := (1 : Int32)) (by decide +kernel) kc_1 ?_
    refine tq_s_goto (off := 4) (tgt := 169) (by decide +kernel) (by decide +kernel) ?_
    exact tq_to (tq_lk1 (tq_lk1 (tq_lk1 (tq_ld1 (tq_lk1 (tq_lk1 (tq_ld1 (tq_lk1 (tq_lk1 (tq_lk1 (tq_lk1 tq_l0))))))))))) (ac_L_counts_169 hB5 hB15 h)
def wb_L_counts_40 (B5 : Int32 → Int32 → Nat → tq_S → Prop) (B15 : Int32 → Int32 → Nat → tq_S → Prop) (B40 : Int64 → Int32 → Nat → tq_S → Prop) (Q : tq_O → tq_S → Prop) (a1 : Int64) (a3 : Int32) (a4 : Int32) (a5 : Int32) (a6 : Int64) (a8 : Int32) (x : Nat) (z : tq_S) : Prop := (((4 : Int32) ≤ a8 → wc_L_counts_156 B5 B15 Q a1 a3 a4 a5 a6 x z) ∧ (¬ (4 : Int32) ≤ a8 → ((¬ a8 = 0 → ((¬ a8 = (1 : Int32) → ((¬ a8 = (2 : Int32) → ((a4 ≤ 0 → wc_L_counts_130 B5 B15 B40 Q a1 a3 a4 a5 a6 a8 (0 : Int64) x z) ∧ (¬ a4 ≤ 0 → ∃ y101 : Nat, x = y101 + 1 ∧ wm_L_having a5 (a4 - (1 : Int32)) (0 : Int32) z (tq_wi fun r102 z103 => ∃ y104 : Nat, y101 = y104 + 400 ∧ wm_L_told r102 z103 (tq_wl fun r105 z106 => wc_L_counts_130 B5 B15 B40 Q a1 a3 a4 a5 a6 a8 r105 y104 z106))))) ∧ (a8 = (2 : Int32) → ∃ y107 : Nat, x = y107 + 3000 ∧ wm_L_leftOf a5 a4 z (tq_wl fun r108 z109 => wc_L_counts_130 B5 B15 B40 Q a1 a3 a4 a5 a6 a8 r108 y107 z109)))) ∧ (a8 = (1 : Int32) → ∃ y110 : Nat, x = y110 + 1 ∧ wm_L_having a5 a4 (0 : Int32) z (tq_wi fun r111 z112 => ∃ y113 : Nat, y110 = y113 + 400 ∧ wm_L_told r111 z112 (tq_wl fun r114 z115 => wc_L_counts_130 B5 B15 B40 Q a1 a3 a4 a5 a6 a8 r114 y113 z115))))) ∧ (a8 = 0 → ∃ y116 : Nat, x = y116 + 1 ∧ wm_L_having a5 a4 (1 : Int32) z (tq_wi fun r117 z118 => ∃ y119 : Nat, y116 = y119 + 400 ∧ wm_L_told r117 z118 (tq_wl fun r120 z121 => wc_L_counts_130 B5 B15 B40 Q a1 a3 a4 a5 a6 a8 r120 y119 z121))))))
def wc_L_counts_40 (B5 : Int32 → Int32 → Nat → tq_S → Prop) (B15 : Int32 → Int32 → Nat → tq_S → Prop) (Q : tq_O → tq_S → Prop) (a1 : Int64) (a3 : Int32) (a4 : Int32) (a5 : Int32) (a6 : Int64) (a8 : Int32) (x : Nat) (z : tq_S) : Prop := tq_lp (σ := Int64 × Int32 × Nat × tq_S) (fun B s => wb_L_counts_40 B5 B15 (fun b6 b8 x z => B (b6, b8, x, z)) Q a1 a3 a4 a5 s.1 s.2.1 s.2.2.1 s.2.2.2) (a6, a8, x, z)
theorem ab_L_counts_40 {K : Nat × (Nat → Int32)} {x : Nat} {Q : tq_O → tq_S → Prop} {B5 : Int32 → Int32 → Nat → tq_S → Prop} {B15 : Int32 → Int32 → Nat → tq_S → Prop} {B40 : Int64 → Int32 → Nat → tq_S → Prop} {a1 : Int64} {a3 : Int32} {a4 : Int32} {a5 : Int32} {a6 : Int64} {a8 : Int32} {z : tq_S} (hB5 : ∀ (b3 : Int32) (b4 : Int32) (x : Nat) (z : tq_S), B5 b3 b4 x z → tq_T K 8 x mm_L_counts 5 [.ref 0, .long a1, .null, .int b3, .int b4, .null, .null, .null, .null, .null, .null] [] z Q) (hB15 : ∀ (b3 : Int32) (b5 : Int32) (x : Nat) (z : tq_S), B15 b3 b5 x z → tq_T K 8 x mm_L_counts 15 [.ref 0, .long a1, .null, .int b3, .int a4, .int b5, .null, .null, .null, .null, .null] [] z Q) (hB40 : ∀ (b6 : Int64) (b8 : Int32) (x : Nat) (z : tq_S), B40 b6 b8 x z → tq_T K 8 x mm_L_counts 40 [.ref 0, .long a1, .null, .int a3, .int a4, .int a5, .long b6, .null, .int b8, .null, .null] [] z Q) (h : wb_L_counts_40 B5 B15 B40 Q a1 a3 a4 a5 a6 a8 x z) : tq_T K 8 x mm_L_counts 40 [.ref 0, .long a1, .null, .int a3, .int a4, .int a5, .long a6, .null, .int a8, .null, .null] [] z Q := by
  unfold wb_L_counts_40 at h
  refine tq_s_iload (i := 8) (by decide +kernel) rfl ?_
  refine tq_k_ic (n := 4) (v := (4 : Int32)) (by decide +kernel) kc_4 ?_
  refine tq_icmp_ge (off := 113) (tgt := 156) (by decide +kernel) (by decide +kernel) (fun hc => ?_) (fun hc => ?_)
  · replace h := h.1 hc
    exact tq_to (tq_lk1 (tq_lk1 (tq_lk1 (tq_lk1 (tq_lk1 (tq_lk1 (tq_lk1 (tq_lk1 (tq_ld1 (tq_lk1 (tq_lk1 tq_l0))))))))))) (ac_L_counts_156 hB5 hB15 h)
  · replace h := h.2 hc
    refine tq_s_iload (i := 8) (by decide +kernel) rfl ?_
    refine tq_if_ne (off := 19) (tgt := 67) (by decide +kernel) (by decide +kernel) (fun hc => ?_) (fun hc => ?_)
    · replace h := h.1 hc
      refine tq_s_iload (i := 8) (by decide +kernel) rfl ?_
      refine tq_k_ic (n := 1) (v := (1 : Int32)) (by decide +kernel) kc_1 ?_
      refine tq_icmp_ne (off := 19) (tgt := 89) (by decide +kernel) (by decide +kernel) (fun hc => ?_) (fun hc => ?_)
      · replace h := h.1 hc
        refine tq_s_iload (i := 8) (by decide +kernel) rfl ?_
        refine tq_k_ic (n := 2) (v := (2 : Int32)) (by decide +kernel) kc_2 ?_
        refine tq_icmp_ne (off := 14) (tgt := 106) (by decide +kernel) (by decide +kernel) (fun hc => ?_) (fun hc => ?_)
        · replace h := h.1 hc
          refine tq_s_iload (i := 4) (by decide +kernel) rfl ?_
          refine tq_if_le (off := 21) (tgt := 129) (by decide +kernel) (by decide +kernel) (fun hc => ?_) (fun hc => ?_)
          · replace h := h.1 hc
            refine tq_k_lc (n := 0) (v := (0 : Int64)) (by decide +kernel) (by decide +kernel) ?_
            exact ac_L_counts_130 hB5 hB15 hB40 h
          · replace h := h.2 hc
            refine tq_s_aload_n (kk := 0) (by decide +kernel) rfl ?_
            refine tq_s_aload_n (kk := 0) (by decide +kernel) rfl ?_
            refine tq_s_iload (i := 5) (by decide +kernel) rfl ?_
            refine tq_s_iload (i := 4) (by decide +kernel) rfl ?_
            refine tq_k_ic (n := 1) (v := (1 : Int32)) (by decide +kernel) kc_1 ?_
            refine tq_s_isub (by decide +kernel) ?_
            refine tq_k_ic (n := 0) (v := (0 : Int32)) (by decide +kernel) kc_0 ?_
            obtain ⟨y101, ey101, h⟩ := h
            refine tq_callSH (as := [.ref 0, .int a5, .int (a4 - (1 : Int32)), .int (0 : Int32)]) (st := [.ref 0]) (d1 := 6) (x1 := 1) (x2 := y101) (by decide +kernel) ln_13_148 mf_L_having rfl (by decide) np_L_having rfl (Nat.le_of_ble_eq_true rfl) (by decide) (ey101.trans (Nat.add_comm _ _)) (tq_M_mono (am_L_having (x := 0) h) ?_)
            refine tq_wi_e (fun r102 z103 h => ?_)
            obtain ⟨y104, ey104, h⟩ := h
            refine tq_callS (as := [.ref 0, .int r102]) (st := []) (d1 := 2) (x1 := 400) (x2 := y104) (by decide +kernel) ln_13_151 mf_L_told rfl (by decide) np_L_told rfl (Nat.le_of_ble_eq_true rfl) (by decide) (ey104.trans (Nat.add_comm _ _)) (tq_M_mono (am_L_told h) ?_)
            refine tq_wl_e (fun r105 z106 h => ?_)
            refine tq_s_goto (off := 4) (tgt := 130) (by decide +kernel) (by decide +kernel) ?_
            exact ac_L_counts_130 hB5 hB15 hB40 h
        · replace h := h.2 hc
          refine tq_s_aload_n (kk := 0) (by decide +kernel) rfl ?_
          refine tq_s_iload (i := 5) (by decide +kernel) rfl ?_
          refine tq_s_iload (i := 4) (by decide +kernel) rfl ?_
          obtain ⟨y107, ey107, h⟩ := h
          refine tq_callS (as := [.ref 0, .int a5, .int a4]) (st := []) (d1 := 7) (x1 := 3000) (x2 := y107) (by decide +kernel) ln_13_155 mf_L_leftOf rfl (by decide) np_L_leftOf rfl (Nat.le_of_ble_eq_true rfl) (by decide) (ey107.trans (Nat.add_comm _ _)) (tq_M_mono (am_L_leftOf h) ?_)
          refine tq_wl_e (fun r108 z109 h => ?_)
          refine tq_s_goto (off := 27) (tgt := 130) (by decide +kernel) (by decide +kernel) ?_
          exact ac_L_counts_130 hB5 hB15 hB40 h
      · replace h := h.2 hc
        refine tq_s_aload_n (kk := 0) (by decide +kernel) rfl ?_
        refine tq_s_aload_n (kk := 0) (by decide +kernel) rfl ?_
        refine tq_s_iload (i := 5) (by decide +kernel) rfl ?_
        refine tq_s_iload (i := 4) (by decide +kernel) rfl ?_
        refine tq_k_ic (n := 0) (v := (0 : Int32)) (by decide +kernel) kc_0 ?_
        obtain ⟨y110, ey110, h⟩ := h
        refine tq_callSH (as := [.ref 0, .int a5, .int a4, .int (0 : Int32)]) (st := [.ref 0]) (d1 := 6) (x1 := 1) (x2 := y110) (by decide +kernel) ln_13_148 mf_L_having rfl (by decide) np_L_having rfl (Nat.le_of_ble_eq_true rfl) (by decide) (ey110.trans (Nat.add_comm _ _)) (tq_M_mono (am_L_having (x := 0) h) ?_)
        refine tq_wi_e (fun r111 z112 h => ?_)
        obtain ⟨y113, ey113, h⟩ := h
        refine tq_callS (as := [.ref 0, .int r111]) (st := []) (d1 := 2) (x1 := 400) (x2 := y113) (by decide +kernel) ln_13_151 mf_L_told rfl (by decide) np_L_told rfl (Nat.le_of_ble_eq_true rfl) (by decide) (ey113.trans (Nat.add_comm _ _)) (tq_M_mono (am_L_told h) ?_)
        refine tq_wl_e (fun r114 z115 h => ?_)
        refine tq_s_goto (off := 44) (tgt := 130) (by decide +kernel) (by decide +kernel) ?_
        exact ac_L_counts_130 hB5 hB15 hB40 h
    · replace h := h.2 hc
      refine tq_s_aload_n (kk := 0) (by decide +kernel) rfl ?_
      refine tq_s_aload_n (kk := 0) (by decide +kernel) rfl ?_
      refine tq_s_iload (i := 5) (by decide +kernel) rfl ?_
      refine tq_s_iload (i := 4) (by decide +kernel) rfl ?_
      refine tq_k_ic (n := 1) (v := (1 : Int32)) (by decide +kernel) kc_1 ?_
      obtain ⟨y116, ey116, h⟩ := h
      refine tq_callSH (as := [.ref 0, .int a5, .int a4, .int (1 : Int32)]) (st := [.ref 0]) (d1 := 6) (x1 := 1) (x2 := y116) (by decide +kernel) ln_13_148 mf_L_having rfl (by decide) np_L_having rfl (Nat.le_of_ble_eq_true rfl) (by decide) (ey116.trans (Nat.add_comm _ _)) (tq_M_mono (am_L_having (x := 0) h) ?_)
      refine tq_wi_e (fun r117 z118 h => ?_)
      obtain ⟨y119, ey119, h⟩ := h
      refine tq_callS (as := [.ref 0, .int r117]) (st := []) (d1 := 2) (x1 := 400) (x2 := y119) (by decide +kernel) ln_13_151 mf_L_told rfl (by decide) np_L_told rfl (Nat.le_of_ble_eq_true rfl) (by decide) (ey119.trans (Nat.add_comm _ _)) (tq_M_mono (am_L_told h) ?_)
      refine tq_wl_e (fun r120 z121 h => ?_)
      refine tq_s_goto (off := 66) (tgt := 130) (by decide +kernel) (by decide +kernel) ?_
      exact ac_L_counts_130 hB5 hB15 hB40 h
theorem ac_L_counts_40 {K : Nat × (Nat → Int32)} {x : Nat} {Q : tq_O → tq_S → Prop} {B5 : Int32 → Int32 → Nat → tq_S → Prop} {B15 : Int32 → Int32 → Nat → tq_S → Prop} {a1 : Int64} {a3 : Int32} {a4 : Int32} {a5 : Int32} {a6 : Int64} {a8 : Int32} {z : tq_S} (hB5 : ∀ (b3 : Int32) (b4 : Int32) (x : Nat) (z : tq_S), B5 b3 b4 x z → tq_T K 8 x mm_L_counts 5 [.ref 0, .long a1, .null, .int b3, .int b4, .null, .null, .null, .null, .null, .null] [] z Q) (hB15 : ∀ (b3 : Int32) (b5 : Int32) (x : Nat) (z : tq_S), B15 b3 b5 x z → tq_T K 8 x mm_L_counts 15 [.ref 0, .long a1, .null, .int b3, .int a4, .int b5, .null, .null, .null, .null, .null] [] z Q) (h : wc_L_counts_40 B5 B15 Q a1 a3 a4 a5 a6 a8 x z) : tq_T K 8 x mm_L_counts 40 [.ref 0, .long a1, .null, .int a3, .int a4, .int a5, .long a6, .null, .int a8, .null, .null] [] z Q :=
  tq_lp_T (σ := Int64 × Int32 × Nat × tq_S) (s := (a6, a8, x, z)) (G := fun s => tq_T K 8 s.2.2.1  mm_L_counts 40 [.ref 0, .long a1, .null, .int a3, .int a4, .int a5, .long s.1, .null, .int s.2.1, .null, .null] [] s.2.2.2 Q) (fun B hB s h => ab_L_counts_40 hB5 hB15 (fun b6 b8 x z h => hB (b6, b8, x, z) h) h) h
def wc_L_counts_177 (B5 : Int32 → Int32 → Nat → tq_S → Prop) (Q : tq_O → tq_S → Prop) (a1 : Int64) (a3 : Int32) (a4 : Int32) (x : Nat) (z : tq_S) : Prop := ∀ v101 : Int32, v101 = a4 + (1 : Int32) → B5 a3 v101 x z
theorem ac_L_counts_177 {K : Nat × (Nat → Int32)} {x : Nat} {Q : tq_O → tq_S → Prop} {B5 : Int32 → Int32 → Nat → tq_S → Prop} {a1 : Int64} {a3 : Int32} {a4 : Int32} {z : tq_S} (hB5 : ∀ (b3 : Int32) (b4 : Int32) (x : Nat) (z : tq_S), B5 b3 b4 x z → tq_T K 8 x mm_L_counts 5 [.ref 0, .long a1, .null, .int b3, .int b4, .null, .null, .null, .null, .null, .null] [] z Q) (h : wc_L_counts_177 B5 Q a1 a3 a4 x z) : tq_T K 8 x mm_L_counts 177 [.ref 0, .long a1, .null, .int a3, .int a4, .null, .null, .null, .null, .null, .null] [] z Q := by
  unfold wc_L_counts_177 at h
  refine tq_g_iinc (i := 4) (fun v101 => [.ref 0, .long a1, .null, .int a3, .int v101, .null, .null, .null, .null, .null, .null]) (by decide +kernel) rfl (1 : Int32) kc_1 (fun _ => rfl) (fun v101 ev101 => ?_)
  replace h := h v101 ev101
  refine tq_s_goto (off := -175) (tgt := 5) (by decide +kernel) (by decide +kernel) ?_
  exact hB5 _ _ _ _ h
def wb_L_counts_15 (B5 : Int32 → Int32 → Nat → tq_S → Prop) (B15 : Int32 → Int32 → Nat → tq_S → Prop) (Q : tq_O → tq_S → Prop) (a1 : Int64) (a3 : Int32) (a4 : Int32) (a5 : Int32) (x : Nat) (z : tq_S) : Prop := (((8 : Int32) ≤ a5 → wc_L_counts_177 B5 Q a1 a3 a4 x z) ∧ (¬ (8 : Int32) ≤ a5 → wm_L_has a5 a4 z (tq_wi fun r102 z101 => ((¬ r102 = (1 : Int32) → wc_L_counts_171 B5 B15 Q a1 a3 a4 a5 x z101) ∧ (r102 = (1 : Int32) → wc_L_counts_40 B5 B15 Q a1 a3 a4 a5 (0 : Int64) (0 : Int32) x z101)))))
def wc_L_counts_15 (B5 : Int32 → Int32 → Nat → tq_S → Prop) (Q : tq_O → tq_S → Prop) (a1 : Int64) (a3 : Int32) (a4 : Int32) (a5 : Int32) (x : Nat) (z : tq_S) : Prop := tq_lp (σ := Int32 × Int32 × Nat × tq_S) (fun B s => wb_L_counts_15 B5 (fun b3 b5 x z => B (b3, b5, x, z)) Q a1 s.1 a4 s.2.1 s.2.2.1 s.2.2.2) (a3, a5, x, z)
theorem ab_L_counts_15 {K : Nat × (Nat → Int32)} {x : Nat} {Q : tq_O → tq_S → Prop} {B5 : Int32 → Int32 → Nat → tq_S → Prop} {B15 : Int32 → Int32 → Nat → tq_S → Prop} {a1 : Int64} {a3 : Int32} {a4 : Int32} {a5 : Int32} {z : tq_S} (hB5 : ∀ (b3 : Int32) (b4 : Int32) (x : Nat) (z : tq_S), B5 b3 b4 x z → tq_T K 8 x mm_L_counts 5 [.ref 0, .long a1, .null, .int b3, .int b4, .null, .null, .null, .null, .null, .null] [] z Q) (hB15 : ∀ (b3 : Int32) (b5 : Int32) (x : Nat) (z : tq_S), B15 b3 b5 x z → tq_T K 8 x mm_L_counts 15 [.ref 0, .long a1, .null, .int b3, .int a4, .int b5, .null, .null, .null, .null, .null] [] z Q) (h : wb_L_counts_15 B5 B15 Q a1 a3 a4 a5 x z) : tq_T K 8 x mm_L_counts 15 [.ref 0, .long a1, .null, .int a3, .int a4, .int a5, .null, .null, .null, .null, .null] [] z Q := by
  unfold wb_L_counts_15 at h
  refine tq_s_iload (i := 5) (by decide +kernel) rfl ?_
  refine tq_k_bi (n := 8) (v := (8 : Int32)) (by decide +kernel) kb_8 ?_
  refine tq_icmp_ge (off := 158) (tgt := 177) (by decide +kernel) (by decide +kernel) (fun hc => ?_) (fun hc => ?_)
  · replace h := h.1 hc
    exact tq_to (tq_lk1 (tq_lk1 (tq_lk1 (tq_lk1 (tq_lk1 (tq_ld1 (tq_lk1 (tq_lk1 (tq_lk1 (tq_lk1 (tq_lk1 tq_l0))))))))))) (ac_L_counts_177 hB5 h)
  · replace h := h.2 hc
    refine tq_s_aload_n (kk := 0) (by decide +kernel) rfl ?_
    refine tq_s_iload (i := 5) (by decide +kernel) rfl ?_
    refine tq_s_iload (i := 4) (by decide +kernel) rfl ?_
    refine tq_callS (as := [.ref 0, .int a5, .int a4]) (st := []) (d1 := 2) (x1 := 0) (x2 := x) (by decide +kernel) ln_13_143 mf_L_has rfl (by decide) np_L_has rfl (Nat.le_of_ble_eq_true rfl) (by decide) (Nat.zero_add _).symm (tq_M_mono (am_L_has h) ?_)
    refine tq_wi_e (fun r102 z101 h => ?_)
    refine tq_k_ic (n := 1) (v := (1 : Int32)) (by decide +kernel) kc_1 ?_
    refine tq_icmp_ne (off := 140) (tgt := 171) (by decide +kernel) (by decide +kernel) (fun hc => ?_) (fun hc => ?_)
    · replace h := h.1 hc
      exact ac_L_counts_171 hB5 hB15 h
    · replace h := h.2 hc
      refine tq_k_lc (n := 0) (v := (0 : Int64)) (by decide +kernel) (by decide +kernel) ?_
      refine tq_s_lstore (i := 6) (L9 := [.ref 0, .long a1, .null, .int a3, .int a4, .int a5, .long (0 : Int64), .null, .null, .null, .null]) (by decide +kernel) (by decide) rfl ?_
      refine tq_k_ic (n := 0) (v := (0 : Int32)) (by decide +kernel) kc_0 ?_
      refine tq_s_istore (i := 8) (L9 := [.ref 0, .long a1, .null, .int a3, .int a4, .int a5, .long (0 : Int64), .null, .int (0 : Int32), .null, .null]) (by decide +kernel) (by decide) rfl ?_
      exact ac_L_counts_40 hB5 hB15 h
theorem ac_L_counts_15 {K : Nat × (Nat → Int32)} {x : Nat} {Q : tq_O → tq_S → Prop} {B5 : Int32 → Int32 → Nat → tq_S → Prop} {a1 : Int64} {a3 : Int32} {a4 : Int32} {a5 : Int32} {z : tq_S} (hB5 : ∀ (b3 : Int32) (b4 : Int32) (x : Nat) (z : tq_S), B5 b3 b4 x z → tq_T K 8 x mm_L_counts 5 [.ref 0, .long a1, .null, .int b3, .int b4, .null, .null, .null, .null, .null, .null] [] z Q) (h : wc_L_counts_15 B5 Q a1 a3 a4 a5 x z) : tq_T K 8 x mm_L_counts 15 [.ref 0, .long a1, .null, .int a3, .int a4, .int a5, .null, .null, .null, .null, .null] [] z Q :=
  tq_lp_T (σ := Int32 × Int32 × Nat × tq_S) (s := (a3, a5, x, z)) (G := fun s => tq_T K 8 s.2.2.1  mm_L_counts 15 [.ref 0, .long a1, .null, .int s.1, .int a4, .int s.2.1, .null, .null, .null, .null, .null] [] s.2.2.2 Q) (fun B hB s h => ab_L_counts_15 hB5 (fun b3 b5 x z h => hB (b3, b5, x, z) h) h) h
def wb_L_counts_5 (B5 : Int32 → Int32 → Nat → tq_S → Prop) (Q : tq_O → tq_S → Prop) (a1 : Int64) (a3 : Int32) (a4 : Int32) (x : Nat) (z : tq_S) : Prop := (((8 : Int32) ≤ a4 → tq_nz a3 ∧ Q (.inl (some (.int a3))) z) ∧ (¬ (8 : Int32) ≤ a4 → wc_L_counts_15 B5 Q a1 a3 a4 (0 : Int32) x z))
def wc_L_counts_5 (Q : tq_O → tq_S → Prop) (a1 : Int64) (a3 : Int32) (a4 : Int32) (x : Nat) (z : tq_S) : Prop := tq_lp (σ := Int32 × Int32 × Nat × tq_S) (fun B s => wb_L_counts_5 (fun b3 b4 x z => B (b3, b4, x, z)) Q a1 s.1 s.2.1 s.2.2.1 s.2.2.2) (a3, a4, x, z)
theorem ab_L_counts_5 {K : Nat × (Nat → Int32)} {x : Nat} {Q : tq_O → tq_S → Prop} {B5 : Int32 → Int32 → Nat → tq_S → Prop} {a1 : Int64} {a3 : Int32} {a4 : Int32} {z : tq_S} (hB5 : ∀ (b3 : Int32) (b4 : Int32) (x : Nat) (z : tq_S), B5 b3 b4 x z → tq_T K 8 x mm_L_counts 5 [.ref 0, .long a1, .null, .int b3, .int b4, .null, .null, .null, .null, .null, .null] [] z Q) (h : wb_L_counts_5 B5 Q a1 a3 a4 x z) : tq_T K 8 x mm_L_counts 5 [.ref 0, .long a1, .null, .int a3, .int a4, .null, .null, .null, .null, .null, .null] [] z Q := by
  unfold wb_L_counts_5 at h
  refine tq_s_iload (i := 4) (by decide +kernel) rfl ?_
  refine tq_k_bi (n := 8) (v := (8 : Int32)) (by decide +kernel) kb_8 ?_
  refine tq_icmp_ge (off := 174) (tgt := 183) (by decide +kernel) (by decide +kernel) (fun hc => ?_) (fun hc => ?_)
  · replace h := h.1 hc
    refine tq_s_iload_n (kk := 3) (by decide +kernel) rfl ?_
    exact tq_ret_z (st := []) (ty := .boolean) (by decide +kernel) (tq_nz_f h.1).1 rfl h.2
  · replace h := h.2 hc
    refine tq_k_ic (n := 0) (v := (0 : Int32)) (by decide +kernel) kc_0 ?_
    refine tq_s_istore (i := 5) (L9 := [.ref 0, .long a1, .null, .int a3, .int a4, .int (0 : Int32), .null, .null, .null, .null, .null]) (by decide +kernel) (by decide) rfl ?_
    exact ac_L_counts_15 hB5 h
theorem ac_L_counts_5 {K : Nat × (Nat → Int32)} {x : Nat} {Q : tq_O → tq_S → Prop} {a1 : Int64} {a3 : Int32} {a4 : Int32} {z : tq_S} (h : wc_L_counts_5 Q a1 a3 a4 x z) : tq_T K 8 x mm_L_counts 5 [.ref 0, .long a1, .null, .int a3, .int a4, .null, .null, .null, .null, .null, .null] [] z Q :=
  tq_lp_T (σ := Int32 × Int32 × Nat × tq_S) (s := (a3, a4, x, z)) (G := fun s => tq_T K 8 s.2.2.1  mm_L_counts 5 [.ref 0, .long a1, .null, .int s.1, .int s.2.1, .null, .null, .null, .null, .null, .null] [] s.2.2.2 Q) (fun B hB s h => ab_L_counts_5 (fun b3 b4 x z h => hB (b3, b4, x, z) h) h) h
def wm_L_counts (a1 : Int64) (z : tq_S) (Q : tq_O → tq_S → Prop) : Prop := wc_L_counts_5 Q a1 (1 : Int32) (0 : Int32) 300000 z
theorem am_L_counts {K : Nat × (Nat → Int32)} {z : tq_S} {Q : tq_O → tq_S → Prop} {a1 : Int64} (h : wm_L_counts a1 z Q) : tq_M K 8 300000 mm_L_counts [.ref 0, .long a1] z Q := by
  unfold wm_L_counts at h
  refine tq_enter (L := [.ref 0, .long a1, .null, .null, .null, .null, .null, .null, .null, .null, .null]) mf_L_counts.1 rfl rfl (Nat.le_of_ble_eq_true rfl) ?_
  refine tq_k_ic (n := 1) (v := (1 : Int32)) (by decide +kernel) kc_1 ?_
  refine tq_s_istore_n (kk := 3) (L9 := [.ref 0, .long a1, .null, .int (1 : Int32), .null, .null, .null, .null, .null, .null, .null]) (by decide +kernel) (by decide) rfl ?_
  refine tq_k_ic (n := 0) (v := (0 : Int32)) (by decide +kernel) kc_0 ?_
  refine tq_s_istore (i := 4) (L9 := [.ref 0, .long a1, .null, .int (1 : Int32), .int (0 : Int32), .null, .null, .null, .null, .null, .null]) (by decide +kernel) (by decide) rfl ?_
  exact ac_L_counts_5 h
def wm_L_roles (a1 : Int32) (z : tq_S) (Q : tq_O → tq_S → Prop) : Prop := wm_X11_roles a1 z (fun o z1 => tq_wi (fun r2 z1 => Q (.inl (some (.int r2))) z1) o z1 ∨ (o = .inr 1 ∧ Q (.inl (some (.int (-900001 : Int32)))) z1))
theorem am_L_roles {K : Nat × (Nat → Int32)} {x : Nat} {a1 : Int32} {z : tq_S} {Q : tq_O → tq_S → Prop} (h : wm_L_roles a1 z Q) : tq_M K 6 (x + 1) mm_L_roles [.ref 0, .int a1] z Q := by
  unfold wm_L_roles at h
  refine tq_enterH (L := [.ref 0, .int a1, .null]) mf_L_roles.1 (by decide +kernel) rfl rfl (Nat.le_of_ble_eq_true rfl) ?_
  refine tq_s_aload_n (kk := 0) (by decide +kernel) rfl ?_
  refine tq_s_iload_n (kk := 1) (by decide +kernel) rfl ?_
  refine tq_callVX (as := [.int a1]) (st := []) (d1 := 5) (x1 := 1) (x2 := x) (by decide +kernel) ln_13_95 mf_X11_roles rfl sh_0 rfl (by decide) np_X11_roles rfl (Nat.le_of_ble_eq_true rfl) (by decide) (Nat.add_comm _ _) (tq_M_mono (am_X11_roles h) ?_)
  intro o z1 h
  rcases h with h | ⟨rfl, h⟩
  · refine Or.inl (tq_wi_e (fun r2 z1 h => ?_) o z1 h)
    exact tq_ret_i (st := []) (by decide +kernel) rfl h
  · refine Or.inr ⟨1, "java/lang/IllegalArgumentException", 6, rfl, rfl, hx_L_roles_0, 2, by decide, Or.inl ⟨2, rfl, (by decide +kernel), ?_⟩⟩
    refine tq_s_ldc (i := 15) (v := (-900001 : Int32)) (by decide +kernel) (by decide +kernel) ?_
    exact tq_ret_i (st := []) (by decide +kernel) rfl h
def wm_L_free  (z : tq_S) (Q : tq_O → tq_S → Prop) : Prop := wm_X11_free z (tq_wi fun r2 z1 => Q (.inl (some (.int r2))) z1)
theorem am_L_free {K : Nat × (Nat → Int32)} {x : Nat} {z : tq_S} {Q : tq_O → tq_S → Prop}  (h : wm_L_free z Q) : tq_M K 6 x mm_L_free [.ref 0] z Q := by
  unfold wm_L_free at h
  refine tq_enter (L := [.ref 0]) mf_L_free.1 rfl rfl (Nat.le_of_ble_eq_true rfl) ?_
  refine tq_s_aload_n (kk := 0) (by decide +kernel) rfl ?_
  refine tq_callV (as := []) (st := []) (d1 := 5) (x1 := 0) (x2 := x) (by decide +kernel) ln_13_92 mf_X11_free rfl sh_0 rfl (by decide) np_X11_free rfl (Nat.le_of_ble_eq_true rfl) (by decide) (Nat.zero_add _).symm (tq_M_mono (am_X11_free h) ?_)
  refine tq_wi_e (fun r2 z1 h => ?_)
  exact tq_ret_i (st := []) (by decide +kernel) rfl h
def wm_L_freed  (z : tq_S) (Q : tq_O → tq_S → Prop) : Prop := ∃ y1 : Nat, 10 = y1 + 1 ∧ wm_L_roles (102 : Int32) z (tq_wi fun r2 z3 => ∃ y4 : Nat, y1 = y4 + 1 ∧ wm_L_roles (110 : Int32) z3 (tq_wi fun r5 z6 => wm_L_free z6 (tq_wi fun r8 z7 => ((¬ r8 = (r2 - r5) → Q (.inl (some (.int (0 : Int32)))) z7) ∧ (r8 = (r2 - r5) → ∃ y9 : Nat, y4 = y9 + 1 ∧ wm_L_roles (45 : Int32) z7 (tq_wi fun r10 z11 => ∃ y12 : Nat, y9 = y12 + 1 ∧ wm_L_cells (97 : Int32) z11 (tq_wi fun r13 z14 => ((¬ ((r2 + r5) + r10) = r13 → Q (.inl (some (.int (0 : Int32)))) z14) ∧ (((r2 + r5) + r10) = r13 → ∃ y15 : Nat, y12 = y15 + 1 ∧ wm_L_roles (120 : Int32) z14 (tq_wi fun r16 z17 => ((¬ r16 = (-900001 : Int32) → Q (.inl (some (.int (0 : Int32)))) z17) ∧ (r16 = (-900001 : Int32) → Q (.inl (some (.int (1 : Int32)))) z17))))))))))))
theorem am_L_freed {K : Nat × (Nat → Int32)} {z : tq_S} {Q : tq_O → tq_S → Prop}  (h : wm_L_freed z Q) : tq_M K 7 10 mm_L_freed [.ref 0] z Q := by
  unfold wm_L_freed at h
  refine tq_enter (L := [.ref 0, .null, .null]) mf_L_freed.1 rfl rfl (Nat.le_of_ble_eq_true rfl) ?_
  refine tq_s_aload_n (kk := 0) (by decide +kernel) rfl ?_
  refine tq_k_bi (n := 102) (v := (102 : Int32)) (by decide +kernel) kb_102 ?_
  obtain ⟨y1, ey1, h⟩ := h
  refine tq_callSH (as := [.ref 0, .int (102 : Int32)]) (st := []) (d1 := 6) (x1 := 1) (x2 := y1) (by decide +kernel) ln_13_186 mf_L_roles rfl (by decide) np_L_roles rfl (Nat.le_of_ble_eq_true rfl) (by decide) (ey1.trans (Nat.add_comm _ _)) (tq_M_mono (am_L_roles (x := 0) h) ?_)
  refine tq_wi_e (fun r2 z3 h => ?_)
  refine tq_s_istore_n (kk := 1) (L9 := [.ref 0, .int r2, .null]) (by decide +kernel) (by decide) rfl ?_
  refine tq_s_aload_n (kk := 0) (by decide +kernel) rfl ?_
  refine tq_k_bi (n := 110) (v := (110 : Int32)) (by decide +kernel) kb_110 ?_
  obtain ⟨y4, ey4, h⟩ := h
  refine tq_callSH (as := [.ref 0, .int (110 : Int32)]) (st := []) (d1 := 6) (x1 := 1) (x2 := y4) (by decide +kernel) ln_13_186 mf_L_roles rfl (by decide) np_L_roles rfl (Nat.le_of_ble_eq_true rfl) (by decide) (ey4.trans (Nat.add_comm _ _)) (tq_M_mono (am_L_roles (x := 0) h) ?_)
  refine tq_wi_e (fun r5 z6 h => ?_)
  refine tq_s_istore_n (kk := 2) (L9 := [.ref 0, .int r2, .int r5]) (by decide +kernel) (by decide) rfl ?_
  refine tq_s_aload_n (kk := 0) (by decide +kernel) rfl ?_
  refine tq_callS (as := [.ref 0]) (st := []) (d1 := 6) (x1 := 0) (x2 := y4) (by decide +kernel) ln_13_188 mf_L_free rfl (by decide) np_L_free rfl (Nat.le_of_ble_eq_true rfl) (by decide) (Nat.zero_add _).symm (tq_M_mono (am_L_free h) ?_)
  refine tq_wi_e (fun r8 z7 h => ?_)
  refine tq_s_iload_n (kk := 1) (by decide +kernel) rfl ?_
  refine tq_s_iload_n (kk := 2) (by decide +kernel) rfl ?_
  refine tq_s_isub (by decide +kernel) ?_
  refine tq_icmp_ne (off := 37) (tgt := 58) (by decide +kernel) (by decide +kernel) (fun hc => ?_) (fun hc => ?_)
  · replace h := h.1 hc
    refine tq_k_ic (n := 0) (v := (0 : Int32)) (by decide +kernel) kc_0 ?_
    exact tq_ret_z (st := []) (ty := .boolean) (by decide +kernel) (by decide +kernel) rfl h
  · replace h := h.2 hc
    refine tq_s_iload_n (kk := 1) (by decide +kernel) rfl ?_
    refine tq_s_iload_n (kk := 2) (by decide +kernel) rfl ?_
    refine tq_s_iadd (by decide +kernel) ?_
    refine tq_s_aload_n (kk := 0) (by decide +kernel) rfl ?_
    refine tq_k_bi (n := 45) (v := (45 : Int32)) (by decide +kernel) kb_45 ?_
    obtain ⟨y9, ey9, h⟩ := h
    refine tq_callSH (as := [.ref 0, .int (45 : Int32)]) (st := [.int (r2 + r5)]) (d1 := 6) (x1 := 1) (x2 := y9) (by decide +kernel) ln_13_186 mf_L_roles rfl (by decide) np_L_roles rfl (Nat.le_of_ble_eq_true rfl) (by decide) (ey9.trans (Nat.add_comm _ _)) (tq_M_mono (am_L_roles (x := 0) h) ?_)
    refine tq_wi_e (fun r10 z11 h => ?_)
    refine tq_s_iadd (by decide +kernel) ?_
    refine tq_s_aload_n (kk := 0) (by decide +kernel) rfl ?_
    refine tq_k_bi (n := 97) (v := (97 : Int32)) (by decide +kernel) kb_97 ?_
    obtain ⟨y12, ey12, h⟩ := h
    refine tq_callSH (as := [.ref 0, .int (97 : Int32)]) (st := [.int ((r2 + r5) + r10)]) (d1 := 3) (x1 := 1) (x2 := y12) (by decide +kernel) ln_13_138 mf_L_cells rfl (by decide) np_L_cells rfl (Nat.le_of_ble_eq_true rfl) (by decide) (ey12.trans (Nat.add_comm _ _)) (tq_M_mono (am_L_cells (x := 0) h) ?_)
    refine tq_wi_e (fun r13 z14 h => ?_)
    refine tq_icmp_ne (off := 18) (tgt := 58) (by decide +kernel) (by decide +kernel) (fun hc => ?_) (fun hc => ?_)
    · replace h := h.1 hc
      refine tq_k_ic (n := 0) (v := (0 : Int32)) (by decide +kernel) kc_0 ?_
      exact tq_ret_z (st := []) (ty := .boolean) (by decide +kernel) (by decide +kernel) rfl h
    · replace h := h.2 hc
      refine tq_s_aload_n (kk := 0) (by decide +kernel) rfl ?_
      refine tq_k_bi (n := 120) (v := (120 : Int32)) (by decide +kernel) kb_120 ?_
      obtain ⟨y15, ey15, h⟩ := h
      refine tq_callSH (as := [.ref 0, .int (120 : Int32)]) (st := []) (d1 := 6) (x1 := 1) (x2 := y15) (by decide +kernel) ln_13_186 mf_L_roles rfl (by decide) np_L_roles rfl (Nat.le_of_ble_eq_true rfl) (by decide) (ey15.trans (Nat.add_comm _ _)) (tq_M_mono (am_L_roles (x := 0) h) ?_)
      refine tq_wi_e (fun r16 z17 h => ?_)
      refine tq_s_ldc (i := 15) (v := (-900001 : Int32)) (by decide +kernel) (by decide +kernel) ?_
      refine tq_icmp_ne (off := 7) (tgt := 58) (by decide +kernel) (by decide +kernel) (fun hc => ?_) (fun hc => ?_)
      · replace h := h.1 hc
        refine tq_k_ic (n := 0) (v := (0 : Int32)) (by decide +kernel) kc_0 ?_
        exact tq_ret_z (st := []) (ty := .boolean) (by decide +kernel) (by decide +kernel) rfl h
      · replace h := h.2 hc
        refine tq_k_ic (n := 1) (v := (1 : Int32)) (by decide +kernel) kc_1 ?_
        refine tq_s_goto (off := 4) (tgt := 59) (by decide +kernel) (by decide +kernel) ?_
        exact tq_ret_z (st := []) (ty := .boolean) (by decide +kernel) (by decide +kernel) rfl h
def wm_L_draw (a1 : Int64) (z : tq_S) (Q : tq_O → tq_S → Prop) : Prop := wm_X11_draw a1 z (fun o z1 => tq_wi (fun r2 z1 => Q (.inl (some (.int r2))) z1) o z1 ∨ (o = .inr 5 ∧ Q (.inl (some (.int (-900001 : Int32)))) z1))
theorem am_L_draw {K : Nat × (Nat → Int32)} {x : Nat} {a1 : Int64} {z : tq_S} {Q : tq_O → tq_S → Prop} (h : wm_L_draw a1 z Q) : tq_M K 6 (x + 1) mm_L_draw [.ref 0, .long a1] z Q := by
  unfold wm_L_draw at h
  refine tq_enterH (L := [.ref 0, .long a1, .null, .null]) mf_L_draw.1 (by decide +kernel) rfl rfl (Nat.le_of_ble_eq_true rfl) ?_
  refine tq_s_aload_n (kk := 0) (by decide +kernel) rfl ?_
  refine tq_s_lload_n (kk := 1) (by decide +kernel) rfl ?_
  refine tq_callVX (as := [.long a1]) (st := []) (d1 := 5) (x1 := 1) (x2 := x) (by decide +kernel) ln_13_54 mf_X11_draw rfl sh_0 rfl (by decide) np_X11_draw rfl (Nat.le_of_ble_eq_true rfl) (by decide) (Nat.add_comm _ _) (tq_M_mono (am_X11_draw h) ?_)
  intro o z1 h
  rcases h with h | ⟨rfl, h⟩
  · refine Or.inl (tq_wi_e (fun r2 z1 h => ?_) o z1 h)
    exact tq_ret_i (st := []) (by decide +kernel) rfl h
  · refine Or.inr ⟨5, "java/util/NoSuchElementException", 6, rfl, rfl, hx_L_draw_0, 3, by decide, Or.inl ⟨3, rfl, (by decide +kernel), ?_⟩⟩
    refine tq_s_ldc (i := 15) (v := (-900001 : Int32)) (by decide +kernel) (by decide +kernel) ?_
    exact tq_ret_i (st := []) (by decide +kernel) rfl h
def wm_L_number  (z : tq_S) (Q : tq_O → tq_S → Prop) : Prop := wm_X11_number z (fun o z1 => tq_wi (fun r2 z1 => Q (.inl (some (.int r2))) z1) o z1 ∨ (o = .inr 5 ∧ Q (.inl (some (.int (-900001 : Int32)))) z1))
theorem am_L_number {K : Nat × (Nat → Int32)} {x : Nat}  {z : tq_S} {Q : tq_O → tq_S → Prop} (h : wm_L_number z Q) : tq_M K 5 (x + 1) mm_L_number [.ref 0] z Q := by
  unfold wm_L_number at h
  refine tq_enterH (L := [.ref 0, .null]) mf_L_number.1 (by decide +kernel) rfl rfl (Nat.le_of_ble_eq_true rfl) ?_
  refine tq_s_aload_n (kk := 0) (by decide +kernel) rfl ?_
  refine tq_callVX (as := []) (st := []) (d1 := 4) (x1 := 1) (x2 := x) (by decide +kernel) ln_13_67 mf_X11_number rfl sh_0 rfl (by decide) np_X11_number rfl (Nat.le_of_ble_eq_true rfl) (by decide) (Nat.add_comm _ _) (tq_M_mono (am_X11_number h) ?_)
  intro o z1 h
  rcases h with h | ⟨rfl, h⟩
  · refine Or.inl (tq_wi_e (fun r2 z1 h => ?_) o z1 h)
    exact tq_ret_i (st := []) (by decide +kernel) rfl h
  · refine Or.inr ⟨5, "java/util/NoSuchElementException", 5, rfl, rfl, hx_L_number_0, 1, by decide, Or.inl ⟨1, rfl, (by decide +kernel), ?_⟩⟩
    refine tq_s_ldc (i := 15) (v := (-900001 : Int32)) (by decide +kernel) (by decide +kernel) ?_
    exact tq_ret_i (st := []) (by decide +kernel) rfl h
def wm_L_flips  (z : tq_S) (Q : tq_O → tq_S → Prop) : Prop := wm_X11_flips z (fun o z1 => tq_wi (fun r2 z1 => Q (.inl (some (.int r2))) z1) o z1 ∨ (o = .inr 5 ∧ Q (.inl (some (.int (-900001 : Int32)))) z1))
theorem am_L_flips {K : Nat × (Nat → Int32)} {x : Nat}  {z : tq_S} {Q : tq_O → tq_S → Prop} (h : wm_L_flips z Q) : tq_M K 5 (x + 1) mm_L_flips [.ref 0] z Q := by
  unfold wm_L_flips at h
  refine tq_enterH (L := [.ref 0, .null]) mf_L_flips.1 (by decide +kernel) rfl rfl (Nat.le_of_ble_eq_true rfl) ?_
  refine tq_s_aload_n (kk := 0) (by decide +kernel) rfl ?_
  refine tq_callVX (as := []) (st := []) (d1 := 4) (x1 := 1) (x2 := x) (by decide +kernel) ln_13_70 mf_X11_flips rfl sh_0 rfl (by decide) np_X11_flips rfl (Nat.le_of_ble_eq_true rfl) (by decide) (Nat.add_comm _ _) (tq_M_mono (am_X11_flips h) ?_)
  intro o z1 h
  rcases h with h | ⟨rfl, h⟩
  · refine Or.inl (tq_wi_e (fun r2 z1 h => ?_) o z1 h)
    exact tq_ret_i (st := []) (by decide +kernel) rfl h
  · refine Or.inr ⟨5, "java/util/NoSuchElementException", 5, rfl, rfl, hx_L_flips_0, 1, by decide, Or.inl ⟨1, rfl, (by decide +kernel), ?_⟩⟩
    refine tq_s_ldc (i := 15) (v := (-900001 : Int32)) (by decide +kernel) (by decide +kernel) ?_
    exact tq_ret_i (st := []) (by decide +kernel) rfl h
def wm_L_next  (z : tq_S) (Q : tq_O → tq_S → Prop) : Prop := wm_X11_next z (fun o z1 => tq_wi (fun r2 z1 => ((r2 = 0 → Q (.inl (some (.int (0 : Int32)))) z1) ∧ (¬ r2 = 0 → Q (.inl (some (.int (1 : Int32)))) z1))) o z1 ∨ (o = .inr 5 ∧ Q (.inl (some (.int (-900001 : Int32)))) z1))
theorem am_L_next {K : Nat × (Nat → Int32)} {x : Nat}  {z : tq_S} {Q : tq_O → tq_S → Prop} (h : wm_L_next z Q) : tq_M K 6 (x + 1) mm_L_next [.ref 0] z Q := by
  unfold wm_L_next at h
  refine tq_enterH (L := [.ref 0, .null]) mf_L_next.1 (by decide +kernel) rfl rfl (Nat.le_of_ble_eq_true rfl) ?_
  refine tq_s_aload_n (kk := 0) (by decide +kernel) rfl ?_
  refine tq_callVX (as := []) (st := []) (d1 := 5) (x1 := 1) (x2 := x) (by decide +kernel) ln_13_60 mf_X11_next rfl sh_0 rfl (by decide) np_X11_next rfl (Nat.le_of_ble_eq_true rfl) (by decide) (Nat.add_comm _ _) (tq_M_mono (am_X11_next h) ?_)
  intro o z1 h
  rcases h with h | ⟨rfl, h⟩
  · refine Or.inl (tq_wi_e (fun r2 z1 h => ?_) o z1 h)
    refine tq_if_eq (off := 7) (tgt := 11) (by decide +kernel) (by decide +kernel) (fun hc => ?_) (fun hc => ?_)
    · replace h := h.1 hc
      refine tq_k_ic (n := 0) (v := (0 : Int32)) (by decide +kernel) kc_0 ?_
      exact tq_ret_i (st := []) (by decide +kernel) rfl h
    · replace h := h.2 hc
      refine tq_k_ic (n := 1) (v := (1 : Int32)) (by decide +kernel) kc_1 ?_
      refine tq_s_goto (off := 4) (tgt := 12) (by decide +kernel) (by decide +kernel) ?_
      exact tq_ret_i (st := []) (by decide +kernel) rfl h
  · refine Or.inr ⟨5, "java/util/NoSuchElementException", 13, rfl, rfl, hx_L_next_0, 1, by decide, Or.inl ⟨1, rfl, (by decide +kernel), ?_⟩⟩
    refine tq_s_ldc (i := 15) (v := (-900001 : Int32)) (by decide +kernel) (by decide +kernel) ?_
    exact tq_ret_i (st := []) (by decide +kernel) rfl h
def wm_L_previous  (z : tq_S) (Q : tq_O → tq_S → Prop) : Prop := wm_X11_previous z (fun o z1 => tq_wi (fun r2 z1 => ((r2 = 0 → Q (.inl (some (.int (0 : Int32)))) z1) ∧ (¬ r2 = 0 → Q (.inl (some (.int (1 : Int32)))) z1))) o z1 ∨ (o = .inr 5 ∧ Q (.inl (some (.int (-900001 : Int32)))) z1))
theorem am_L_previous {K : Nat × (Nat → Int32)} {x : Nat}  {z : tq_S} {Q : tq_O → tq_S → Prop} (h : wm_L_previous z Q) : tq_M K 6 (x + 1) mm_L_previous [.ref 0] z Q := by
  unfold wm_L_previous at h
  refine tq_enterH (L := [.ref 0, .null]) mf_L_previous.1 (by decide +kernel) rfl rfl (Nat.le_of_ble_eq_true rfl) ?_
  refine tq_s_aload_n (kk := 0) (by decide +kernel) rfl ?_
  refine tq_callVX (as := []) (st := []) (d1 := 5) (x1 := 1) (x2 := x) (by decide +kernel) ln_13_64 mf_X11_previous rfl sh_0 rfl (by decide) np_X11_previous rfl (Nat.le_of_ble_eq_true rfl) (by decide) (Nat.add_comm _ _) (tq_M_mono (am_X11_previous h) ?_)
  intro o z1 h
  rcases h with h | ⟨rfl, h⟩
  · refine Or.inl (tq_wi_e (fun r2 z1 h => ?_) o z1 h)
    refine tq_if_eq (off := 7) (tgt := 11) (by decide +kernel) (by decide +kernel) (fun hc => ?_) (fun hc => ?_)
    · replace h := h.1 hc
      refine tq_k_ic (n := 0) (v := (0 : Int32)) (by decide +kernel) kc_0 ?_
      exact tq_ret_i (st := []) (by decide +kernel) rfl h
    · replace h := h.2 hc
      refine tq_k_ic (n := 1) (v := (1 : Int32)) (by decide +kernel) kc_1 ?_
      refine tq_s_goto (off := 4) (tgt := 12) (by decide +kernel) (by decide +kernel) ?_
      exact tq_ret_i (st := []) (by decide +kernel) rfl h
  · refine Or.inr ⟨5, "java/util/NoSuchElementException", 13, rfl, rfl, hx_L_previous_0, 1, by decide, Or.inl ⟨1, rfl, (by decide +kernel), ?_⟩⟩
    refine tq_s_ldc (i := 15) (v := (-900001 : Int32)) (by decide +kernel) (by decide +kernel) ?_
    exact tq_ret_i (st := []) (by decide +kernel) rfl h
def wm_L_undo  (z : tq_S) (Q : tq_O → tq_S → Prop) : Prop := wm_X11_undo z (fun o z1 => tq_wi (fun r2 z1 => Q (.inl (some (.int r2))) z1) o z1 ∨ (o = .inr 2 ∧ Q (.inl (some (.int (-900001 : Int32)))) z1))
theorem am_L_undo {K : Nat × (Nat → Int32)} {x : Nat}  {z : tq_S} {Q : tq_O → tq_S → Prop} (h : wm_L_undo z Q) : tq_M K 2 (x + 1) mm_L_undo [.ref 0] z Q := by
  unfold wm_L_undo at h
  refine tq_enterH (L := [.ref 0, .null]) mf_L_undo.1 (by decide +kernel) rfl rfl (Nat.le_of_ble_eq_true rfl) ?_
  refine tq_s_aload_n (kk := 0) (by decide +kernel) rfl ?_
  refine tq_callVX (as := []) (st := []) (d1 := 1) (x1 := 1) (x2 := x) (by decide +kernel) ln_13_78 mf_X11_undo rfl sh_0 rfl (by decide) np_X11_undo rfl (Nat.le_of_ble_eq_true rfl) (by decide) (Nat.add_comm _ _) (tq_M_mono (am_X11_undo h) ?_)
  intro o z1 h
  rcases h with h | ⟨rfl, h⟩
  · refine Or.inl (tq_wi_e (fun r2 z1 h => ?_) o z1 h)
    exact tq_ret_i (st := []) (by decide +kernel) rfl h
  · refine Or.inr ⟨2, "java/lang/IllegalStateException", 5, rfl, rfl, hx_L_undo_0, 1, by decide, Or.inl ⟨1, rfl, (by decide +kernel), ?_⟩⟩
    refine tq_s_ldc (i := 15) (v := (-900001 : Int32)) (by decide +kernel) (by decide +kernel) ?_
    exact tq_ret_i (st := []) (by decide +kernel) rfl h
def wm_L_keep  (z : tq_S) (Q : tq_O → tq_S → Prop) : Prop := wm_X11_keep z (fun o z1 => tq_wi (fun r2 z1 => Q (.inl (some (.int r2))) z1) o z1 ∨ (o = .inr 5 ∧ Q (.inl (some (.int (-900001 : Int32)))) z1))
theorem am_L_keep {K : Nat × (Nat → Int32)} {x : Nat}  {z : tq_S} {Q : tq_O → tq_S → Prop} (h : wm_L_keep z Q) : tq_M K 2 (x + 1) mm_L_keep [.ref 0] z Q := by
  unfold wm_L_keep at h
  refine tq_enterH (L := [.ref 0, .null]) mf_L_keep.1 (by decide +kernel) rfl rfl (Nat.le_of_ble_eq_true rfl) ?_
  refine tq_s_aload_n (kk := 0) (by decide +kernel) rfl ?_
  refine tq_callVX (as := []) (st := []) (d1 := 1) (x1 := 1) (x2 := x) (by decide +kernel) ln_13_83 mf_X11_keep rfl sh_0 rfl (by decide) np_X11_keep rfl (Nat.le_of_ble_eq_true rfl) (by decide) (Nat.add_comm _ _) (tq_M_mono (am_X11_keep h) ?_)
  intro o z1 h
  rcases h with h | ⟨rfl, h⟩
  · refine Or.inl (tq_wi_e (fun r2 z1 h => ?_) o z1 h)
    exact tq_ret_i (st := []) (by decide +kernel) rfl h
  · refine Or.inr ⟨5, "java/util/NoSuchElementException", 5, rfl, rfl, hx_L_keep_0, 1, by decide, Or.inl ⟨1, rfl, (by decide +kernel), ?_⟩⟩
    refine tq_s_ldc (i := 15) (v := (-900001 : Int32)) (by decide +kernel) (by decide +kernel) ?_
    exact tq_ret_i (st := []) (by decide +kernel) rfl h
def wm_L_cuts  (z : tq_S) (Q : tq_O → tq_S → Prop) : Prop := wm_X11_cuts z (fun o z1 => tq_wi (fun r2 z1 => Q (.inl (some (.int r2))) z1) o z1 ∨ (o = .inr 5 ∧ Q (.inl (some (.int (-900001 : Int32)))) z1))
theorem am_L_cuts {K : Nat × (Nat → Int32)} {x : Nat}  {z : tq_S} {Q : tq_O → tq_S → Prop} (h : wm_L_cuts z Q) : tq_M K 2 (x + 1) mm_L_cuts [.ref 0] z Q := by
  unfold wm_L_cuts at h
  refine tq_enterH (L := [.ref 0, .null]) mf_L_cuts.1 (by decide +kernel) rfl rfl (Nat.le_of_ble_eq_true rfl) ?_
  refine tq_s_aload_n (kk := 0) (by decide +kernel) rfl ?_
  refine tq_callVX (as := []) (st := []) (d1 := 1) (x1 := 1) (x2 := x) (by decide +kernel) ln_13_89 mf_X11_cuts rfl sh_0 rfl (by decide) np_X11_cuts rfl (Nat.le_of_ble_eq_true rfl) (by decide) (Nat.add_comm _ _) (tq_M_mono (am_X11_cuts h) ?_)
  intro o z1 h
  rcases h with h | ⟨rfl, h⟩
  · refine Or.inl (tq_wi_e (fun r2 z1 h => ?_) o z1 h)
    exact tq_ret_i (st := []) (by decide +kernel) rfl h
  · refine Or.inr ⟨5, "java/util/NoSuchElementException", 5, rfl, rfl, hx_L_cuts_0, 1, by decide, Or.inl ⟨1, rfl, (by decide +kernel), ?_⟩⟩
    refine tq_s_ldc (i := 15) (v := (-900001 : Int32)) (by decide +kernel) (by decide +kernel) ?_
    exact tq_ret_i (st := []) (by decide +kernel) rfl h
def wm_L_apart  (z : tq_S) (Q : tq_O → tq_S → Prop) : Prop := wm_X11_apart z (fun o z1 => tq_wi (fun r2 z1 => Q (.inl (some (.int r2))) z1) o z1 ∨ (o = .inr 4 ∧ Q (.inl (some (.int (-900001 : Int32)))) z1) ∨ (o = .inr 5 ∧ Q (.inl (some (.int (-900002 : Int32)))) z1))
theorem am_L_apart {K : Nat × (Nat → Int32)} {x : Nat}  {z : tq_S} {Q : tq_O → tq_S → Prop} (h : wm_L_apart z Q) : tq_M K 6 (x + 1) mm_L_apart [.ref 0] z Q := by
  unfold wm_L_apart at h
  refine tq_enterH (L := [.ref 0, .null]) mf_L_apart.1 (by decide +kernel) rfl rfl (Nat.le_of_ble_eq_true rfl) ?_
  refine tq_s_aload_n (kk := 0) (by decide +kernel) rfl ?_
  refine tq_callVX (as := []) (st := []) (d1 := 5) (x1 := 1) (x2 := x) (by decide +kernel) ln_13_86 mf_X11_apart rfl sh_0 rfl (by decide) np_X11_apart rfl (Nat.le_of_ble_eq_true rfl) (by decide) (Nat.add_comm _ _) (tq_M_mono (am_X11_apart h) ?_)
  intro o z1 h
  rcases h with h | ⟨rfl, h⟩ | ⟨rfl, h⟩
  · refine Or.inl (tq_wi_e (fun r2 z1 h => ?_) o z1 h)
    exact tq_ret_i (st := []) (by decide +kernel) rfl h
  · refine Or.inr ⟨4, "java/lang/UnsupportedOperationException", 5, rfl, rfl, hx_L_apart_0, 1, by decide, Or.inl ⟨1, rfl, (by decide +kernel), ?_⟩⟩
    refine tq_s_ldc (i := 15) (v := (-900001 : Int32)) (by decide +kernel) (by decide +kernel) ?_
    exact tq_ret_i (st := []) (by decide +kernel) rfl h
  · refine Or.inr ⟨5, "java/util/NoSuchElementException", 9, rfl, rfl, hx_L_apart_1, 1, by decide, Or.inl ⟨1, rfl, (by decide +kernel), ?_⟩⟩
    refine tq_s_ldc (i := 77) (v := (-900002 : Int32)) (by decide +kernel) (by decide +kernel) ?_
    exact tq_ret_i (st := []) (by decide +kernel) rfl h
def wm_L_flip (a1 : Int32) (z : tq_S) (Q : tq_O → tq_S → Prop) : Prop := wm_X11_flip a1 z (fun o z1 => tq_wi (fun r2 z1 => Q (.inl (some (.int r2))) z1) o z1 ∨ (o = .inr 5 ∧ Q (.inl (some (.int (-900001 : Int32)))) z1) ∨ (o = .inr 3 ∧ Q (.inl (some (.int (-900002 : Int32)))) z1))
theorem am_L_flip {K : Nat × (Nat → Int32)} {x : Nat} {a1 : Int32} {z : tq_S} {Q : tq_O → tq_S → Prop} (h : wm_L_flip a1 z Q) : tq_M K 5 (x + 1) mm_L_flip [.ref 0, .int a1] z Q := by
  unfold wm_L_flip at h
  refine tq_enterH (L := [.ref 0, .int a1, .null]) mf_L_flip.1 (by decide +kernel) rfl rfl (Nat.le_of_ble_eq_true rfl) ?_
  refine tq_s_aload_n (kk := 0) (by decide +kernel) rfl ?_
  refine tq_s_iload_n (kk := 1) (by decide +kernel) rfl ?_
  refine tq_callVX (as := [.int a1]) (st := []) (d1 := 4) (x1 := 1) (x2 := x) (by decide +kernel) ln_13_73 mf_X11_flip rfl sh_0 rfl (by decide) np_X11_flip rfl (Nat.le_of_ble_eq_true rfl) (by decide) (Nat.add_comm _ _) (tq_M_mono (am_X11_flip h) ?_)
  intro o z1 h
  rcases h with h | ⟨rfl, h⟩ | ⟨rfl, h⟩
  · refine Or.inl (tq_wi_e (fun r2 z1 h => ?_) o z1 h)
    exact tq_ret_i (st := []) (by decide +kernel) rfl h
  · refine Or.inr ⟨5, "java/util/NoSuchElementException", 6, rfl, rfl, hx_L_flip_0, 2, by decide, Or.inl ⟨2, rfl, (by decide +kernel), ?_⟩⟩
    refine tq_s_ldc (i := 15) (v := (-900001 : Int32)) (by decide +kernel) (by decide +kernel) ?_
    exact tq_ret_i (st := []) (by decide +kernel) rfl h
  · refine Or.inr ⟨3, "java/lang/IndexOutOfBoundsException", 10, rfl, rfl, hx_L_flip_1, 2, by decide, Or.inl ⟨2, rfl, (by decide +kernel), ?_⟩⟩
    refine tq_s_ldc (i := 77) (v := (-900002 : Int32)) (by decide +kernel) (by decide +kernel) ?_
    exact tq_ret_i (st := []) (by decide +kernel) rfl h
def wc_L_numbered_315 (B34 : Int32 → Int32 → Nat → tq_S → Prop) (B265 : Int32 → Int32 → Nat → tq_S → Prop) (Q : tq_O → tq_S → Prop) (a2 : Int64) (a5 : Int32) (a6 : Int32) (a7 : Int32) (a12 : Int32) (a13 : Int32) (s0 : Int32) (s1 : Int32) (x : Nat) (z : tq_S) : Prop := ∀ v101 : Int32, v101 = (s1 &&& s0) → ∀ v102 : Int32, v102 = a13 + (1 : Int32) → B265 v101 v102 x z
theorem ac_L_numbered_315 {K : Nat × (Nat → Int32)} {x : Nat} {Q : tq_O → tq_S → Prop} {B34 : Int32 → Int32 → Nat → tq_S → Prop} {B265 : Int32 → Int32 → Nat → tq_S → Prop} {a2 : Int64} {a5 : Int32} {a6 : Int32} {a7 : Int32} {a12 : Int32} {a13 : Int32} {s0 : Int32} {s1 : Int32} {z : tq_S} (hB34 : ∀ (b4 : Int32) (b7 : Int32) (x : Nat) (z : tq_S), B34 b4 b7 x z → tq_T K 7 x mm_L_numbered 34 [.ref 0, .ref 51, .long a2, .null, .int b4, .int a5, .int a6, .int b7, .null, .null, .null, .null, .null, .null, .null] [] z Q) (hB265 : ∀ (b4 : Int32) (b13 : Int32) (x : Nat) (z : tq_S), B265 b4 b13 x z → tq_T K 7 x mm_L_numbered 265 [.ref 0, .ref 51, .long a2, .null, .int b4, .int a5, .int a6, .int a7, .null, .null, .null, .null, .int a12, .int b13, .null] [] z Q) (h : wc_L_numbered_315 B34 B265 Q a2 a5 a6 a7 a12 a13 s0 s1 x z) : tq_T K 7 x mm_L_numbered 315 [.ref 0, .ref 51, .long a2, .null, .null, .int a5, .int a6, .int a7, .null, .null, .null, .null, .int a12, .int a13, .null] [.int s0, .int s1] z Q := by
  unfold wc_L_numbered_315 at h
  refine tq_s_iand (by decide +kernel) ?_
  refine tq_g_istore (i := 4) (fun v101 => [.ref 0, .ref 51, .long a2, .null, .int v101, .int a5, .int a6, .int a7, .null, .null, .null, .null, .int a12, .int a13, .null]) (by decide +kernel) (by decide) (fun _ => rfl) (fun v101 ev101 => ?_)
  replace h := h v101 ev101
  refine tq_g_iinc (i := 13) (fun v102 => [.ref 0, .ref 51, .long a2, .null, .int v101, .int a5, .int a6, .int a7, .null, .null, .null, .null, .int a12, .int v102, .null]) (by decide +kernel) rfl (1 : Int32) kc_1 (fun _ => rfl) (fun v102 ev102 => ?_)
  replace h := h v102 ev102
  refine tq_s_goto (off := -56) (tgt := 265) (by decide +kernel) (by decide +kernel) ?_
  exact hB265 _ _ _ _ h
def wc_L_numbered_314 (B34 : Int32 → Int32 → Nat → tq_S → Prop) (B265 : Int32 → Int32 → Nat → tq_S → Prop) (Q : tq_O → tq_S → Prop) (a2 : Int64) (a5 : Int32) (a6 : Int32) (a7 : Int32) (a12 : Int32) (a13 : Int32) (s0 : Int32) (x : Nat) (z : tq_S) : Prop := wc_L_numbered_315 B34 B265 Q a2 a5 a6 a7 a12 a13 (0 : Int32) s0 x z
theorem ac_L_numbered_314 {K : Nat × (Nat → Int32)} {x : Nat} {Q : tq_O → tq_S → Prop} {B34 : Int32 → Int32 → Nat → tq_S → Prop} {B265 : Int32 → Int32 → Nat → tq_S → Prop} {a2 : Int64} {a5 : Int32} {a6 : Int32} {a7 : Int32} {a12 : Int32} {a13 : Int32} {s0 : Int32} {z : tq_S} (hB34 : ∀ (b4 : Int32) (b7 : Int32) (x : Nat) (z : tq_S), B34 b4 b7 x z → tq_T K 7 x mm_L_numbered 34 [.ref 0, .ref 51, .long a2, .null, .int b4, .int a5, .int a6, .int b7, .null, .null, .null, .null, .null, .null, .null] [] z Q) (hB265 : ∀ (b4 : Int32) (b13 : Int32) (x : Nat) (z : tq_S), B265 b4 b13 x z → tq_T K 7 x mm_L_numbered 265 [.ref 0, .ref 51, .long a2, .null, .int b4, .int a5, .int a6, .int a7, .null, .null, .null, .null, .int a12, .int b13, .null] [] z Q) (h : wc_L_numbered_314 B34 B265 Q a2 a5 a6 a7 a12 a13 s0 x z) : tq_T K 7 x mm_L_numbered 314 [.ref 0, .ref 51, .long a2, .null, .null, .int a5, .int a6, .int a7, .null, .null, .null, .null, .int a12, .int a13, .null] [.int s0] z Q := by
  unfold wc_L_numbered_314 at h
  refine tq_k_ic (n := 0) (v := (0 : Int32)) (by decide +kernel) kc_0 ?_
  exact ac_L_numbered_315 hB34 hB265 h
def wc_L_numbered_303 (B34 : Int32 → Int32 → Nat → tq_S → Prop) (B265 : Int32 → Int32 → Nat → tq_S → Prop) (Q : tq_O → tq_S → Prop) (a2 : Int64) (a5 : Int32) (a6 : Int32) (a7 : Int32) (a12 : Int32) (a13 : Int32) (s0 : Int32) (x : Nat) (z : tq_S) : Prop := ∃ y101 : Nat, x = y101 + 1 ∧ wm_L_undo z (tq_wi fun r102 z103 => ((r102 < 0 → wc_L_numbered_314 B34 B265 Q a2 a5 a6 a7 a12 a13 s0 y101 z103) ∧ (¬ r102 < 0 → wc_L_numbered_315 B34 B265 Q a2 a5 a6 a7 a12 a13 (1 : Int32) s0 y101 z103)))
theorem ac_L_numbered_303 {K : Nat × (Nat → Int32)} {x : Nat} {Q : tq_O → tq_S → Prop} {B34 : Int32 → Int32 → Nat → tq_S → Prop} {B265 : Int32 → Int32 → Nat → tq_S → Prop} {a2 : Int64} {a5 : Int32} {a6 : Int32} {a7 : Int32} {a12 : Int32} {a13 : Int32} {s0 : Int32} {z : tq_S} (hB34 : ∀ (b4 : Int32) (b7 : Int32) (x : Nat) (z : tq_S), B34 b4 b7 x z → tq_T K 7 x mm_L_numbered 34 [.ref 0, .ref 51, .long a2, .null, .int b4, .int a5, .int a6, .int b7, .null, .null, .null, .null, .null, .null, .null] [] z Q) (hB265 : ∀ (b4 : Int32) (b13 : Int32) (x : Nat) (z : tq_S), B265 b4 b13 x z → tq_T K 7 x mm_L_numbered 265 [.ref 0, .ref 51, .long a2, .null, .int b4, .int a5, .int a6, .int a7, .null, .null, .null, .null, .int a12, .int b13, .null] [] z Q) (h : wc_L_numbered_303 B34 B265 Q a2 a5 a6 a7 a12 a13 s0 x z) : tq_T K 7 x mm_L_numbered 303 [.ref 0, .ref 51, .long a2, .null, .null, .int a5, .int a6, .int a7, .null, .null, .null, .null, .int a12, .int a13, .null] [.int s0] z Q := by
  unfold wc_L_numbered_303 at h
  refine tq_s_aload_n (kk := 0) (by decide +kernel) rfl ?_
  obtain ⟨y101, ey101, h⟩ := h
  refine tq_callSH (as := [.ref 0]) (st := [.int s0]) (d1 := 2) (x1 := 1) (x2 := y101) (by decide +kernel) ln_13_174 mf_L_undo rfl (by decide) np_L_undo rfl (Nat.le_of_ble_eq_true rfl) (by decide) (ey101.trans (Nat.add_comm _ _)) (tq_M_mono (am_L_undo (x := 0) h) ?_)
  refine tq_wi_e (fun r102 z103 h => ?_)
  refine tq_if_lt (off := 7) (tgt := 314) (by decide +kernel) (by decide +kernel) (fun hc => ?_) (fun hc => ?_)
  · replace h := h.1 hc
    exact ac_L_numbered_314 hB34 hB265 h
  · replace h := h.2 hc
    refine tq_k_ic (n := 1) (v := (1 : Int32)) (by decide +kernel) kc_1 ?_
    refine tq_s_goto (off := 4) (tgt := 315) (by decide +kernel) (by decide +kernel) ?_
    exact ac_L_numbered_315 hB34 hB265 h
def wc_L_numbered_389 (B34 : Int32 → Int32 → Nat → tq_S → Prop) (B355 : Int32 → Int32 → Int32 → Nat → tq_S → Prop) (Q : tq_O → tq_S → Prop) (a2 : Int64) (a5 : Int32) (a6 : Int32) (a7 : Int32) (a13 : Int32) (a14 : Int32) (s0 : Int32) (s1 : Int32) (x : Nat) (z : tq_S) : Prop := ∀ v101 : Int32, v101 = (s1 &&& s0) → ∀ v102 : Int32, v102 = a13 + (1 : Int32) → ∀ v103 : Int32, v103 = a14 + (-1 : Int32) → B355 v101 v102 v103 x z
theorem ac_L_numbered_389 {K : Nat × (Nat → Int32)} {x : Nat} {Q : tq_O → tq_S → Prop} {B34 : Int32 → Int32 → Nat → tq_S → Prop} {B355 : Int32 → Int32 → Int32 → Nat → tq_S → Prop} {a2 : Int64} {a5 : Int32} {a6 : Int32} {a7 : Int32} {a13 : Int32} {a14 : Int32} {s0 : Int32} {s1 : Int32} {z : tq_S} (hB34 : ∀ (b4 : Int32) (b7 : Int32) (x : Nat) (z : tq_S), B34 b4 b7 x z → tq_T K 7 x mm_L_numbered 34 [.ref 0, .ref 51, .long a2, .null, .int b4, .int a5, .int a6, .int b7, .null, .null, .null, .null, .null, .null, .null] [] z Q) (hB355 : ∀ (b4 : Int32) (b13 : Int32) (b14 : Int32) (x : Nat) (z : tq_S), B355 b4 b13 b14 x z → tq_T K 7 x mm_L_numbered 355 [.ref 0, .ref 51, .long a2, .null, .int b4, .int a5, .int a6, .int a7, .null, .null, .null, .null, .null, .int b13, .int b14] [] z Q) (h : wc_L_numbered_389 B34 B355 Q a2 a5 a6 a7 a13 a14 s0 s1 x z) : tq_T K 7 x mm_L_numbered 389 [.ref 0, .ref 51, .long a2, .null, .null, .int a5, .int a6, .int a7, .null, .null, .null, .null, .null, .int a13, .int a14] [.int s0, .int s1] z Q := by
  unfold wc_L_numbered_389 at h
  refine tq_s_iand (by decide +kernel) ?_
  refine tq_g_istore (i := 4) (fun v101 => [.ref 0, .ref 51, .long a2, .null, .int v101, .int a5, .int a6, .int a7, .null, .null, .null, .null, .null, .int a13, .int a14]) (by decide +kernel) (by decide) (fun _ => rfl) (fun v101 ev101 => ?_)
  replace h := h v101 ev101
  refine tq_g_iinc (i := 13) (fun v102 => [.ref 0, .ref 51, .long a2, .null, .int v101, .int a5, .int a6, .int a7, .null, .null, .null, .null, .null, .int v102, .int a14]) (by decide +kernel) rfl (1 : Int32) kc_1 (fun _ => rfl) (fun v102 ev102 => ?_)
  replace h := h v102 ev102
  refine tq_g_iinc (i := 14) (fun v103 => [.ref 0, .ref 51, .long a2, .null, .int v101, .int a5, .int a6, .int a7, .null, .null, .null, .null, .null, .int v102, .int v103]) (by decide +kernel) rfl (-1 : Int32) kc_m1 (fun _ => rfl) (fun v103 ev103 => ?_)
  replace h := h v103 ev103
  refine tq_s_goto (off := -43) (tgt := 355) (by decide +kernel) (by decide +kernel) ?_
  exact hB355 _ _ _ _ _ h
def wc_L_numbered_464 (B34 : Int32 → Int32 → Nat → tq_S → Prop) (Q : tq_O → tq_S → Prop) (a2 : Int64) (a5 : Int32) (a6 : Int32) (a7 : Int32) (s0 : Int32) (s1 : Int32) (x : Nat) (z : tq_S) : Prop := ∀ v101 : Int32, v101 = (s1 &&& s0) → ∀ v102 : Int32, v102 = a7 + (1 : Int32) → B34 v101 v102 x z
theorem ac_L_numbered_464 {K : Nat × (Nat → Int32)} {x : Nat} {Q : tq_O → tq_S → Prop} {B34 : Int32 → Int32 → Nat → tq_S → Prop} {a2 : Int64} {a5 : Int32} {a6 : Int32} {a7 : Int32} {s0 : Int32} {s1 : Int32} {z : tq_S} (hB34 : ∀ (b4 : Int32) (b7 : Int32) (x : Nat) (z : tq_S), B34 b4 b7 x z → tq_T K 7 x mm_L_numbered 34 [.ref 0, .ref 51, .long a2, .null, .int b4, .int a5, .int a6, .int b7, .null, .null, .null, .null, .null, .null, .null] [] z Q) (h : wc_L_numbered_464 B34 Q a2 a5 a6 a7 s0 s1 x z) : tq_T K 7 x mm_L_numbered 464 [.ref 0, .ref 51, .long a2, .null, .null, .int a5, .int a6, .int a7, .null, .null, .null, .null, .null, .null, .null] [.int s0, .int s1] z Q := by
  unfold wc_L_numbered_464 at h
  refine tq_s_iand (by decide +kernel) ?_
  refine tq_g_istore (i := 4) (fun v101 => [.ref 0, .ref 51, .long a2, .null, .int v101, .int a5, .int a6, .int a7, .null, .null, .null, .null, .null, .null, .null]) (by decide +kernel) (by decide) (fun _ => rfl) (fun v101 ev101 => ?_)
  replace h := h v101 ev101
  refine tq_g_iinc (i := 7) (fun v102 => [.ref 0, .ref 51, .long a2, .null, .int v101, .int a5, .int a6, .int v102, .null, .null, .null, .null, .null, .null, .null]) (by decide +kernel) rfl (1 : Int32) kc_1 (fun _ => rfl) (fun v102 ev102 => ?_)
  replace h := h v102 ev102
  refine tq_s_goto (off := -436) (tgt := 34) (by decide +kernel) (by decide +kernel) ?_
  exact hB34 _ _ _ _ h
def wc_L_numbered_463 (B34 : Int32 → Int32 → Nat → tq_S → Prop) (Q : tq_O → tq_S → Prop) (a2 : Int64) (a5 : Int32) (a6 : Int32) (a7 : Int32) (s0 : Int32) (x : Nat) (z : tq_S) : Prop := wc_L_numbered_464 B34 Q a2 a5 a6 a7 (0 : Int32) s0 x z
theorem ac_L_numbered_463 {K : Nat × (Nat → Int32)} {x : Nat} {Q : tq_O → tq_S → Prop} {B34 : Int32 → Int32 → Nat → tq_S → Prop} {a2 : Int64} {a5 : Int32} {a6 : Int32} {a7 : Int32} {s0 : Int32} {z : tq_S} (hB34 : ∀ (b4 : Int32) (b7 : Int32) (x : Nat) (z : tq_S), B34 b4 b7 x z → tq_T K 7 x mm_L_numbered 34 [.ref 0, .ref 51, .long a2, .null, .int b4, .int a5, .int a6, .int b7, .null, .null, .null, .null, .null, .null, .null] [] z Q) (h : wc_L_numbered_463 B34 Q a2 a5 a6 a7 s0 x z) : tq_T K 7 x mm_L_numbered 463 [.ref 0, .ref 51, .long a2, .null, .null, .int a5, .int a6, .int a7, .null, .null, .null, .null, .null, .null, .null] [.int s0] z Q := by
  unfold wc_L_numbered_463 at h
  refine tq_k_ic (n := 0) (v := (0 : Int32)) (by decide +kernel) kc_0 ?_
  exact ac_L_numbered_464 hB34 h
def wc_L_numbered_455 (B34 : Int32 → Int32 → Nat → tq_S → Prop) (Q : tq_O → tq_S → Prop) (a2 : Int64) (a5 : Int32) (a6 : Int32) (a7 : Int32) (s0 : Int32) (s1 : Int32) (s2 : Int32) (x : Nat) (z : tq_S) : Prop := (((s1 ||| s0) = 0 → wc_L_numbered_463 B34 Q a2 a5 a6 a7 s2 x z) ∧ (¬ (s1 ||| s0) = 0 → wc_L_numbered_464 B34 Q a2 a5 a6 a7 (1 : Int32) s2 x z))
theorem ac_L_numbered_455 {K : Nat × (Nat → Int32)} {x : Nat} {Q : tq_O → tq_S → Prop} {B34 : Int32 → Int32 → Nat → tq_S → Prop} {a2 : Int64} {a5 : Int32} {a6 : Int32} {a7 : Int32} {s0 : Int32} {s1 : Int32} {s2 : Int32} {z : tq_S} (hB34 : ∀ (b4 : Int32) (b7 : Int32) (x : Nat) (z : tq_S), B34 b4 b7 x z → tq_T K 7 x mm_L_numbered 34 [.ref 0, .ref 51, .long a2, .null, .int b4, .int a5, .int a6, .int b7, .null, .null, .null, .null, .null, .null, .null] [] z Q) (h : wc_L_numbered_455 B34 Q a2 a5 a6 a7 s0 s1 s2 x z) : tq_T K 7 x mm_L_numbered 455 [.ref 0, .ref 51, .long a2, .null, .null, .int a5, .int a6, .int a7, .null, .null, .null, .null, .null, .null, .null] [.int s0, .int s1, .int s2] z Q := by
  unfold wc_L_numbered_455 at h
  refine tq_s_ior (by decide +kernel) ?_
  refine tq_if_eq (off := 7) (tgt := 463) (by decide +kernel) (by decide +kernel) (fun hc => ?_) (fun hc => ?_)
  · replace h := h.1 hc
    exact ac_L_numbered_463 hB34 h
  · replace h := h.2 hc
    refine tq_k_ic (n := 1) (v := (1 : Int32)) (by decide +kernel) kc_1 ?_
    refine tq_s_goto (off := 4) (tgt := 464) (by decide +kernel) (by decide +kernel) ?_
    exact ac_L_numbered_464 hB34 h
def wc_L_numbered_445 (B34 : Int32 → Int32 → Nat → tq_S → Prop) (Q : tq_O → tq_S → Prop) (a2 : Int64) (a5 : Int32) (a6 : Int32) (a7 : Int32) (s0 : Int32) (s1 : Int32) (x : Nat) (z : tq_S) : Prop := ((¬ a6 = 0 → wc_L_numbered_455 B34 Q a2 a5 a6 a7 (0 : Int32) s0 s1 x z) ∧ (a6 = 0 → wc_L_numbered_455 B34 Q a2 a5 a6 a7 (1 : Int32) s0 s1 x z))
theorem ac_L_numbered_445 {K : Nat × (Nat → Int32)} {x : Nat} {Q : tq_O → tq_S → Prop} {B34 : Int32 → Int32 → Nat → tq_S → Prop} {a2 : Int64} {a5 : Int32} {a6 : Int32} {a7 : Int32} {s0 : Int32} {s1 : Int32} {z : tq_S} (hB34 : ∀ (b4 : Int32) (b7 : Int32) (x : Nat) (z : tq_S), B34 b4 b7 x z → tq_T K 7 x mm_L_numbered 34 [.ref 0, .ref 51, .long a2, .null, .int b4, .int a5, .int a6, .int b7, .null, .null, .null, .null, .null, .null, .null] [] z Q) (h : wc_L_numbered_445 B34 Q a2 a5 a6 a7 s0 s1 x z) : tq_T K 7 x mm_L_numbered 445 [.ref 0, .ref 51, .long a2, .null, .null, .int a5, .int a6, .int a7, .null, .null, .null, .null, .null, .null, .null] [.int s0, .int s1] z Q := by
  unfold wc_L_numbered_445 at h
  refine tq_s_iload (i := 6) (by decide +kernel) rfl ?_
  refine tq_if_ne (off := 7) (tgt := 454) (by decide +kernel) (by decide +kernel) (fun hc => ?_) (fun hc => ?_)
  · replace h := h.1 hc
    refine tq_k_ic (n := 0) (v := (0 : Int32)) (by decide +kernel) kc_0 ?_
    exact ac_L_numbered_455 hB34 h
  · replace h := h.2 hc
    refine tq_k_ic (n := 1) (v := (1 : Int32)) (by decide +kernel) kc_1 ?_
    refine tq_s_goto (off := 4) (tgt := 455) (by decide +kernel) (by decide +kernel) ?_
    exact ac_L_numbered_455 hB34 h
def wc_L_numbered_414 (B34 : Int32 → Int32 → Nat → tq_S → Prop) (Q : tq_O → tq_S → Prop) (a2 : Int64) (a4 : Int32) (a5 : Int32) (a6 : Int32) (a7 : Int32) (a13 : Int32) (s0 : Int32) (x : Nat) (z : tq_S) : Prop := ((s0 < 0 → wc_L_numbered_463 B34 Q a2 a5 a6 a7 a4 x z) ∧ (¬ s0 < 0 → ((a13 < s0 → wc_L_numbered_463 B34 Q a2 a5 a6 a7 a4 x z) ∧ (¬ a13 < s0 → ((¬ ((s0 - a13) - (s0 - a13) / (2 : Int32) * (2 : Int32)) = 0 → wc_L_numbered_445 B34 Q a2 a5 a6 a7 (0 : Int32) a4 x z) ∧ (((s0 - a13) - (s0 - a13) / (2 : Int32) * (2 : Int32)) = 0 → wc_L_numbered_445 B34 Q a2 a5 a6 a7 (1 : Int32) a4 x z))))))
theorem ac_L_numbered_414 {K : Nat × (Nat → Int32)} {x : Nat} {Q : tq_O → tq_S → Prop} {B34 : Int32 → Int32 → Nat → tq_S → Prop} {a2 : Int64} {a4 : Int32} {a5 : Int32} {a6 : Int32} {a7 : Int32} {a13 : Int32} {s0 : Int32} {z : tq_S} (hB34 : ∀ (b4 : Int32) (b7 : Int32) (x : Nat) (z : tq_S), B34 b4 b7 x z → tq_T K 7 x mm_L_numbered 34 [.ref 0, .ref 51, .long a2, .null, .int b4, .int a5, .int a6, .int b7, .null, .null, .null, .null, .null, .null, .null] [] z Q) (h : wc_L_numbered_414 B34 Q a2 a4 a5 a6 a7 a13 s0 x z) : tq_T K 7 x mm_L_numbered 414 [.ref 0, .ref 51, .long a2, .null, .int a4, .int a5, .int a6, .int a7, .null, .null, .null, .null, .null, .int a13, .null] [.int s0] z Q := by
  unfold wc_L_numbered_414 at h
  refine tq_s_istore (i := 14) (L9 := [.ref 0, .ref 51, .long a2, .null, .int a4, .int a5, .int a6, .int a7, .null, .null, .null, .null, .null, .int a13, .int s0]) (by decide +kernel) (by decide) rfl ?_
  refine tq_s_iload (i := 4) (by decide +kernel) rfl ?_
  refine tq_s_iload (i := 14) (by decide +kernel) rfl ?_
  refine tq_if_lt (off := 43) (tgt := 463) (by decide +kernel) (by decide +kernel) (fun hc => ?_) (fun hc => ?_)
  · replace h := h.1 hc
    exact tq_to (tq_lk1 (tq_lk1 (tq_lk1 (tq_lk1 (tq_ld1 (tq_lk1 (tq_lk1 (tq_lk1 (tq_lk1 (tq_lk1 (tq_lk1 (tq_lk1 (tq_lk1 (tq_ld1 (tq_ld1 tq_l0))))))))))))))) (ac_L_numbered_463 hB34 h)
  · replace h := h.2 hc
    refine tq_s_iload (i := 14) (by decide +kernel) rfl ?_
    refine tq_s_iload (i := 13) (by decide +kernel) rfl ?_
    refine tq_icmp_gt (off := 36) (tgt := 463) (by decide +kernel) (by decide +kernel) (fun hc => ?_) (fun hc => ?_)
    · replace h := h.1 hc
      exact tq_to (tq_lk1 (tq_lk1 (tq_lk1 (tq_lk1 (tq_ld1 (tq_lk1 (tq_lk1 (tq_lk1 (tq_lk1 (tq_lk1 (tq_lk1 (tq_lk1 (tq_lk1 (tq_ld1 (tq_ld1 tq_l0))))))))))))))) (ac_L_numbered_463 hB34 h)
    · replace h := h.2 hc
      refine tq_s_iload (i := 14) (by decide +kernel) rfl ?_
      refine tq_s_iload (i := 13) (by decide +kernel) rfl ?_
      refine tq_s_isub (by decide +kernel) ?_
      refine tq_k_ic (n := 2) (v := (2 : Int32)) (by decide +kernel) kc_2 ?_
      refine tq_s_irem (by decide +kernel) (by decide +kernel) ?_
      refine tq_if_ne (off := 7) (tgt := 444) (by decide +kernel) (by decide +kernel) (fun hc => ?_) (fun hc => ?_)
      · replace h := h.1 hc
        refine tq_k_ic (n := 0) (v := (0 : Int32)) (by decide +kernel) kc_0 ?_
        exact tq_to (tq_lk1 (tq_lk1 (tq_lk1 (tq_lk1 (tq_ld1 (tq_lk1 (tq_lk1 (tq_lk1 (tq_lk1 (tq_lk1 (tq_lk1 (tq_lk1 (tq_lk1 (tq_ld1 (tq_ld1 tq_l0))))))))))))))) (ac_L_numbered_445 hB34 h)
      · replace h := h.2 hc
        refine tq_k_ic (n := 1) (v := (1 : Int32)) (by decide +kernel) kc_1 ?_
        refine tq_s_goto (off := 4) (tgt := 445) (by decide +kernel) (by decide +kernel) ?_
        exact tq_to (tq_lk1 (tq_lk1 (tq_lk1 (tq_lk1 (tq_ld1 (tq_lk1 (tq_lk1 (tq_lk1 (tq_lk1 (tq_lk1 (tq_lk1 (tq_lk1 (tq_lk1 (tq_ld1 (tq_ld1 tq_l0))))))))))))))) (ac_L_numbered_445 hB34 h)
def wc_L_numbered_401 (B34 : Int32 → Int32 → Nat → tq_S → Prop) (Q : tq_O → tq_S → Prop) (a2 : Int64) (a4 : Int32) (a5 : Int32) (a6 : Int32) (a7 : Int32) (a13 : Int32) (x : Nat) (z : tq_S) : Prop := ((a6 = 0 → wc_L_numbered_414 B34 Q a2 a4 a5 a6 a7 a13 (0 : Int32) x z) ∧ (¬ a6 = 0 → ∃ y101 : Nat, x = y101 + 1 ∧ wm_L_apart z (tq_wi fun r102 z103 => wc_L_numbered_414 B34 Q a2 a4 a5 a6 a7 a13 r102 y101 z103)))
theorem ac_L_numbered_401 {K : Nat × (Nat → Int32)} {x : Nat} {Q : tq_O → tq_S → Prop} {B34 : Int32 → Int32 → Nat → tq_S → Prop} {a2 : Int64} {a4 : Int32} {a5 : Int32} {a6 : Int32} {a7 : Int32} {a13 : Int32} {z : tq_S} (hB34 : ∀ (b4 : Int32) (b7 : Int32) (x : Nat) (z : tq_S), B34 b4 b7 x z → tq_T K 7 x mm_L_numbered 34 [.ref 0, .ref 51, .long a2, .null, .int b4, .int a5, .int a6, .int b7, .null, .null, .null, .null, .null, .null, .null] [] z Q) (h : wc_L_numbered_401 B34 Q a2 a4 a5 a6 a7 a13 x z) : tq_T K 7 x mm_L_numbered 401 [.ref 0, .ref 51, .long a2, .null, .int a4, .int a5, .int a6, .int a7, .null, .null, .null, .null, .null, .int a13, .null] [] z Q := by
  unfold wc_L_numbered_401 at h
  refine tq_s_iload (i := 6) (by decide +kernel) rfl ?_
  refine tq_if_eq (off := 10) (tgt := 413) (by decide +kernel) (by decide +kernel) (fun hc => ?_) (fun hc => ?_)
  · replace h := h.1 hc
    refine tq_k_ic (n := 0) (v := (0 : Int32)) (by decide +kernel) kc_0 ?_
    exact ac_L_numbered_414 hB34 h
  · replace h := h.2 hc
    refine tq_s_aload_n (kk := 0) (by decide +kernel) rfl ?_
    obtain ⟨y101, ey101, h⟩ := h
    refine tq_callSH (as := [.ref 0]) (st := []) (d1 := 6) (x1 := 1) (x2 := y101) (by decide +kernel) ln_13_180 mf_L_apart rfl (by decide) np_L_apart rfl (Nat.le_of_ble_eq_true rfl) (by decide) (ey101.trans (Nat.add_comm _ _)) (tq_M_mono (am_L_apart (x := 0) h) ?_)
    refine tq_wi_e (fun r102 z103 h => ?_)
    refine tq_s_goto (off := 4) (tgt := 414) (by decide +kernel) (by decide +kernel) ?_
    exact ac_L_numbered_414 hB34 h
def wb_L_numbered_355 (B34 : Int32 → Int32 → Nat → tq_S → Prop) (B355 : Int32 → Int32 → Int32 → Nat → tq_S → Prop) (Q : tq_O → tq_S → Prop) (a2 : Int64) (a4 : Int32) (a5 : Int32) (a6 : Int32) (a7 : Int32) (a13 : Int32) (a14 : Int32) (x : Nat) (z : tq_S) : Prop := ((a14 ≤ 0 → wc_L_numbered_401 B34 Q a2 a4 a5 a6 a7 a13 x z) ∧ (¬ a14 ≤ 0 → ∃ y101 : Nat, x = y101 + 1 ∧ wm_L_flips z (tq_wi fun r102 z103 => ((r102 ≤ 0 → wc_L_numbered_401 B34 Q a2 a4 a5 a6 a7 a13 y101 z103) ∧ (¬ r102 ≤ 0 → ∃ y104 : Nat, y101 = y104 + 1 ∧ wm_L_flips z103 (tq_wi fun r105 z106 => wm_L_draw_ r105 z106 (tq_wi fun r108 z107 => ∃ y109 : Nat, y104 = y109 + 1 ∧ wm_L_flip r108 z107 (tq_wi fun r110 z111 => ((r110 ≤ 0 → wc_L_numbered_389 B34 B355 Q a2 a5 a6 a7 a13 a14 (0 : Int32) a4 y109 z111) ∧ (¬ r110 ≤ 0 → wc_L_numbered_389 B34 B355 Q a2 a5 a6 a7 a13 a14 (1 : Int32) a4 y109 z111))))))))))
def wc_L_numbered_355 (B34 : Int32 → Int32 → Nat → tq_S → Prop) (Q : tq_O → tq_S → Prop) (a2 : Int64) (a4 : Int32) (a5 : Int32) (a6 : Int32) (a7 : Int32) (a13 : Int32) (a14 : Int32) (x : Nat) (z : tq_S) : Prop := tq_lp (σ := Int32 × Int32 × Int32 × Nat × tq_S) (fun B s => wb_L_numbered_355 B34 (fun b4 b13 b14 x z => B (b4, b13, b14, x, z)) Q a2 s.1 a5 a6 a7 s.2.1 s.2.2.1 s.2.2.2.1 s.2.2.2.2) (a4, a13, a14, x, z)
theorem ab_L_numbered_355 {K : Nat × (Nat → Int32)} {x : Nat} {Q : tq_O → tq_S → Prop} {B34 : Int32 → Int32 → Nat → tq_S → Prop} {B355 : Int32 → Int32 → Int32 → Nat → tq_S → Prop} {a2 : Int64} {a4 : Int32} {a5 : Int32} {a6 : Int32} {a7 : Int32} {a13 : Int32} {a14 : Int32} {z : tq_S} (hB34 : ∀ (b4 : Int32) (b7 : Int32) (x : Nat) (z : tq_S), B34 b4 b7 x z → tq_T K 7 x mm_L_numbered 34 [.ref 0, .ref 51, .long a2, .null, .int b4, .int a5, .int a6, .int b7, .null, .null, .null, .null, .null, .null, .null] [] z Q) (hB355 : ∀ (b4 : Int32) (b13 : Int32) (b14 : Int32) (x : Nat) (z : tq_S), B355 b4 b13 b14 x z → tq_T K 7 x mm_L_numbered 355 [.ref 0, .ref 51, .long a2, .null, .int b4, .int a5, .int a6, .int a7, .null, .null, .null, .null, .null, .int b13, .int b14] [] z Q) (h : wb_L_numbered_355 B34 B355 Q a2 a4 a5 a6 a7 a13 a14 x z) : tq_T K 7 x mm_L_numbered 355 [.ref 0, .ref 51, .long a2, .null, .int a4, .int a5, .int a6, .int a7, .null, .null, .null, .null, .null, .int a13, .int a14] [] z Q := by
  unfold wb_L_numbered_355 at h
  refine tq_s_iload (i := 14) (by decide +kernel) rfl ?_
  refine tq_if_le (off := 44) (tgt := 401) (by decide +kernel) (by decide +kernel) (fun hc => ?_) (fun hc => ?_)
  · replace h := h.1 hc
    exact tq_to (tq_lk1 (tq_lk1 (tq_lk1 (tq_lk1 (tq_lk1 (tq_lk1 (tq_lk1 (tq_lk1 (tq_lk1 (tq_lk1 (tq_lk1 (tq_lk1 (tq_lk1 (tq_lk1 (tq_ld1 tq_l0))))))))))))))) (ac_L_numbered_401 hB34 h)
  · replace h := h.2 hc
    refine tq_s_aload_n (kk := 0) (by decide +kernel) rfl ?_
    obtain ⟨y101, ey101, h⟩ := h
    refine tq_callSH (as := [.ref 0]) (st := []) (d1 := 5) (x1 := 1) (x2 := y101) (by decide +kernel) ln_13_182 mf_L_flips rfl (by decide) np_L_flips rfl (Nat.le_of_ble_eq_true rfl) (by decide) (ey101.trans (Nat.add_comm _ _)) (tq_M_mono (am_L_flips (x := 0) h) ?_)
    refine tq_wi_e (fun r102 z103 h => ?_)
    refine tq_if_le (off := 37) (tgt := 401) (by decide +kernel) (by decide +kernel) (fun hc => ?_) (fun hc => ?_)
    · replace h := h.1 hc
      exact tq_to (tq_lk1 (tq_lk1 (tq_lk1 (tq_lk1 (tq_lk1 (tq_lk1 (tq_lk1 (tq_lk1 (tq_lk1 (tq_lk1 (tq_lk1 (tq_lk1 (tq_lk1 (tq_lk1 (tq_ld1 tq_l0))))))))))))))) (ac_L_numbered_401 hB34 h)
    · replace h := h.2 hc
      refine tq_s_iload (i := 4) (by decide +kernel) rfl ?_
      refine tq_s_aload_n (kk := 0) (by decide +kernel) rfl ?_
      refine tq_s_aload_n (kk := 1) (by decide +kernel) rfl ?_
      refine tq_s_aload_n (kk := 0) (by decide +kernel) rfl ?_
      obtain ⟨y104, ey104, h⟩ := h
      refine tq_callSH (as := [.ref 0]) (st := [.ref 51, .ref 0, .int a4]) (d1 := 5) (x1 := 1) (x2 := y104) (by decide +kernel) ln_13_182 mf_L_flips rfl (by decide) np_L_flips rfl (Nat.le_of_ble_eq_true rfl) (by decide) (ey104.trans (Nat.add_comm _ _)) (tq_M_mono (am_L_flips (x := 0) h) ?_)
      refine tq_wi_e (fun r105 z106 h => ?_)
      refine tq_callS (as := [.ref 51, .int r105]) (st := [.ref 0, .int a4]) (d1 := 0) (x1 := 0) (x2 := y104) (by decide +kernel) ln_13_129 mf_L_draw_ rfl (by decide) np_L_draw_ rfl (Nat.le_of_ble_eq_true rfl) (by decide) (Nat.zero_add _).symm (tq_M_mono (am_L_draw_ h) ?_)
      refine tq_wi_e (fun r108 z107 h => ?_)
      obtain ⟨y109, ey109, h⟩ := h
      refine tq_callSH (as := [.ref 0, .int r108]) (st := [.int a4]) (d1 := 5) (x1 := 1) (x2 := y109) (by decide +kernel) ln_13_184 mf_L_flip rfl (by decide) np_L_flip rfl (Nat.le_of_ble_eq_true rfl) (by decide) (ey109.trans (Nat.add_comm _ _)) (tq_M_mono (am_L_flip (x := 0) h) ?_)
      refine tq_wi_e (fun r110 z111 h => ?_)
      refine tq_if_le (off := 7) (tgt := 388) (by decide +kernel) (by decide +kernel) (fun hc => ?_) (fun hc => ?_)
      · replace h := h.1 hc
        refine tq_k_ic (n := 0) (v := (0 : Int32)) (by decide +kernel) kc_0 ?_
        exact tq_to (tq_lk1 (tq_lk1 (tq_lk1 (tq_lk1 (tq_ld1 (tq_lk1 (tq_lk1 (tq_lk1 (tq_lk1 (tq_lk1 (tq_lk1 (tq_lk1 (tq_lk1 (tq_lk1 (tq_lk1 tq_l0))))))))))))))) (ac_L_numbered_389 hB34 hB355 h)
      · replace h := h.2 hc
        refine tq_k_ic (n := 1) (v := (1 : Int32)) (by decide +kernel) kc_1 ?_
        refine tq_s_goto (off := 4) (tgt := 389) (by decide +kernel) (by decide +kernel) ?_
        exact tq_to (tq_lk1 (tq_lk1 (tq_lk1 (tq_lk1 (tq_ld1 (tq_lk1 (tq_lk1 (tq_lk1 (tq_lk1 (tq_lk1 (tq_lk1 (tq_lk1 (tq_lk1 (tq_lk1 (tq_lk1 tq_l0))))))))))))))) (ac_L_numbered_389 hB34 hB355 h)
theorem ac_L_numbered_355 {K : Nat × (Nat → Int32)} {x : Nat} {Q : tq_O → tq_S → Prop} {B34 : Int32 → Int32 → Nat → tq_S → Prop} {a2 : Int64} {a4 : Int32} {a5 : Int32} {a6 : Int32} {a7 : Int32} {a13 : Int32} {a14 : Int32} {z : tq_S} (hB34 : ∀ (b4 : Int32) (b7 : Int32) (x : Nat) (z : tq_S), B34 b4 b7 x z → tq_T K 7 x mm_L_numbered 34 [.ref 0, .ref 51, .long a2, .null, .int b4, .int a5, .int a6, .int b7, .null, .null, .null, .null, .null, .null, .null] [] z Q) (h : wc_L_numbered_355 B34 Q a2 a4 a5 a6 a7 a13 a14 x z) : tq_T K 7 x mm_L_numbered 355 [.ref 0, .ref 51, .long a2, .null, .int a4, .int a5, .int a6, .int a7, .null, .null, .null, .null, .null, .int a13, .int a14] [] z Q :=
  tq_lp_T (σ := Int32 × Int32 × Int32 × Nat × tq_S) (s := (a4, a13, a14, x, z)) (G := fun s => tq_T K 7 s.2.2.2.1  mm_L_numbered 355 [.ref 0, .ref 51, .long a2, .null, .int s.1, .int a5, .int a6, .int a7, .null, .null, .null, .null, .null, .int s.2.1, .int s.2.2.1] [] s.2.2.2.2 Q) (fun B hB s h => ab_L_numbered_355 hB34 (fun b4 b13 b14 x z h => hB (b4, b13, b14, x, z) h) h) h
def wc_L_numbered_342 (B34 : Int32 → Int32 → Nat → tq_S → Prop) (Q : tq_O → tq_S → Prop) (a2 : Int64) (a5 : Int32) (a6 : Int32) (a7 : Int32) (s0 : Int32) (s1 : Int32) (x : Nat) (z : tq_S) : Prop := ∀ v101 : Int32, v101 = (s1 &&& s0) → wm_L_draw_ (5 : Int32) z (tq_wi fun r103 z102 => wc_L_numbered_355 B34 Q a2 v101 a5 a6 a7 (0 : Int32) r103 x z102)
theorem ac_L_numbered_342 {K : Nat × (Nat → Int32)} {x : Nat} {Q : tq_O → tq_S → Prop} {B34 : Int32 → Int32 → Nat → tq_S → Prop} {a2 : Int64} {a5 : Int32} {a6 : Int32} {a7 : Int32} {s0 : Int32} {s1 : Int32} {z : tq_S} (hB34 : ∀ (b4 : Int32) (b7 : Int32) (x : Nat) (z : tq_S), B34 b4 b7 x z → tq_T K 7 x mm_L_numbered 34 [.ref 0, .ref 51, .long a2, .null, .int b4, .int a5, .int a6, .int b7, .null, .null, .null, .null, .null, .null, .null] [] z Q) (h : wc_L_numbered_342 B34 Q a2 a5 a6 a7 s0 s1 x z) : tq_T K 7 x mm_L_numbered 342 [.ref 0, .ref 51, .long a2, .null, .null, .int a5, .int a6, .int a7, .null, .null, .null, .null, .null, .null, .null] [.int s0, .int s1] z Q := by
  unfold wc_L_numbered_342 at h
  refine tq_s_iand (by decide +kernel) ?_
  refine tq_g_istore (i := 4) (fun v101 => [.ref 0, .ref 51, .long a2, .null, .int v101, .int a5, .int a6, .int a7, .null, .null, .null, .null, .null, .null, .null]) (by decide +kernel) (by decide) (fun _ => rfl) (fun v101 ev101 => ?_)
  replace h := h v101 ev101
  refine tq_k_ic (n := 0) (v := (0 : Int32)) (by decide +kernel) kc_0 ?_
  refine tq_s_istore (i := 13) (L9 := [.ref 0, .ref 51, .long a2, .null, .int v101, .int a5, .int a6, .int a7, .null, .null, .null, .null, .null, .int (0 : Int32), .null]) (by decide +kernel) (by decide) rfl ?_
  refine tq_s_aload_n (kk := 1) (by decide +kernel) rfl ?_
  refine tq_k_ic (n := 5) (v := (5 : Int32)) (by decide +kernel) kc_5 ?_
  refine tq_callS (as := [.ref 51, .int (5 : Int32)]) (st := []) (d1 := 0) (x1 := 0) (x2 := x) (by decide +kernel) ln_13_129 mf_L_draw_ rfl (by decide) np_L_draw_ rfl (Nat.le_of_ble_eq_true rfl) (by decide) (Nat.zero_add _).symm (tq_M_mono (am_L_draw_ h) ?_)
  refine tq_wi_e (fun r103 z102 h => ?_)
  refine tq_s_istore (i := 14) (L9 := [.ref 0, .ref 51, .long a2, .null, .int v101, .int a5, .int a6, .int a7, .null, .null, .null, .null, .null, .int (0 : Int32), .int r103]) (by decide +kernel) (by decide) rfl ?_
  exact ac_L_numbered_355 hB34 h
def wc_L_numbered_324 (B34 : Int32 → Int32 → Nat → tq_S → Prop) (Q : tq_O → tq_S → Prop) (a2 : Int64) (a4 : Int32) (a5 : Int32) (a6 : Int32) (a7 : Int32) (a12 : Int32) (x : Nat) (z : tq_S) : Prop := ∃ y101 : Nat, x = y101 + 1 ∧ wm_L_flip a12 z (tq_wi fun r102 z103 => ((¬ r102 = (-900002 : Int32) → wc_L_numbered_342 B34 Q a2 a5 a6 a7 (0 : Int32) a4 y101 z103) ∧ (r102 = (-900002 : Int32) → wc_L_numbered_342 B34 Q a2 a5 a6 a7 (1 : Int32) a4 y101 z103)))
theorem ac_L_numbered_324 {K : Nat × (Nat → Int32)} {x : Nat} {Q : tq_O → tq_S → Prop} {B34 : Int32 → Int32 → Nat → tq_S → Prop} {a2 : Int64} {a4 : Int32} {a5 : Int32} {a6 : Int32} {a7 : Int32} {a12 : Int32} {z : tq_S} (hB34 : ∀ (b4 : Int32) (b7 : Int32) (x : Nat) (z : tq_S), B34 b4 b7 x z → tq_T K 7 x mm_L_numbered 34 [.ref 0, .ref 51, .long a2, .null, .int b4, .int a5, .int a6, .int b7, .null, .null, .null, .null, .null, .null, .null] [] z Q) (h : wc_L_numbered_324 B34 Q a2 a4 a5 a6 a7 a12 x z) : tq_T K 7 x mm_L_numbered 324 [.ref 0, .ref 51, .long a2, .null, .int a4, .int a5, .int a6, .int a7, .null, .null, .null, .null, .int a12, .null, .null] [] z Q := by
  unfold wc_L_numbered_324 at h
  refine tq_s_iload (i := 4) (by decide +kernel) rfl ?_
  refine tq_s_aload_n (kk := 0) (by decide +kernel) rfl ?_
  refine tq_s_iload (i := 12) (by decide +kernel) rfl ?_
  obtain ⟨y101, ey101, h⟩ := h
  refine tq_callSH (as := [.ref 0, .int a12]) (st := [.int a4]) (d1 := 5) (x1 := 1) (x2 := y101) (by decide +kernel) ln_13_184 mf_L_flip rfl (by decide) np_L_flip rfl (Nat.le_of_ble_eq_true rfl) (by decide) (ey101.trans (Nat.add_comm _ _)) (tq_M_mono (am_L_flip (x := 0) h) ?_)
  refine tq_wi_e (fun r102 z103 h => ?_)
  refine tq_s_ldc (i := 77) (v := (-900002 : Int32)) (by decide +kernel) (by decide +kernel) ?_
  refine tq_icmp_ne (off := 7) (tgt := 341) (by decide +kernel) (by decide +kernel) (fun hc => ?_) (fun hc => ?_)
  · replace h := h.1 hc
    refine tq_k_ic (n := 0) (v := (0 : Int32)) (by decide +kernel) kc_0 ?_
    exact tq_to (tq_lk1 (tq_lk1 (tq_lk1 (tq_lk1 (tq_ld1 (tq_lk1 (tq_lk1 (tq_lk1 (tq_lk1 (tq_lk1 (tq_lk1 (tq_lk1 (tq_ld1 (tq_lk1 (tq_lk1 tq_l0))))))))))))))) (ac_L_numbered_342 hB34 h)
  · replace h := h.2 hc
    refine tq_k_ic (n := 1) (v := (1 : Int32)) (by decide +kernel) kc_1 ?_
    refine tq_s_goto (off := 4) (tgt := 342) (by decide +kernel) (by decide +kernel) ?_
    exact tq_to (tq_lk1 (tq_lk1 (tq_lk1 (tq_lk1 (tq_ld1 (tq_lk1 (tq_lk1 (tq_lk1 (tq_lk1 (tq_lk1 (tq_lk1 (tq_lk1 (tq_ld1 (tq_lk1 (tq_lk1 tq_l0))))))))))))))) (ac_L_numbered_342 hB34 h)
def wb_L_numbered_265 (B34 : Int32 → Int32 → Nat → tq_S → Prop) (B265 : Int32 → Int32 → Nat → tq_S → Prop) (Q : tq_O → tq_S → Prop) (a2 : Int64) (a4 : Int32) (a5 : Int32) (a6 : Int32) (a7 : Int32) (a12 : Int32) (a13 : Int32) (x : Nat) (z : tq_S) : Prop := ((a12 ≤ a13 → wc_L_numbered_324 B34 Q a2 a4 a5 a6 a7 a12 x z) ∧ (¬ a12 ≤ a13 → (((6 : Int32) ≤ a13 → wc_L_numbered_324 B34 Q a2 a4 a5 a6 a7 a12 x z) ∧ (¬ (6 : Int32) ≤ a13 → ∃ y101 : Nat, x = y101 + 1 ∧ wm_L_flip a13 z (tq_wi fun r102 z103 => ((r102 ≤ 0 → wc_L_numbered_314 B34 B265 Q a2 a5 a6 a7 a12 a13 a4 y101 z103) ∧ (¬ r102 ≤ 0 → ((a6 = 0 → wc_L_numbered_303 B34 B265 Q a2 a5 a6 a7 a12 a13 a4 y101 z103) ∧ (¬ a6 = 0 → ∃ y104 : Nat, y101 = y104 + 1 ∧ wm_L_apart z103 (tq_wi fun r105 z106 => ((¬ r105 = (1 : Int32) → wc_L_numbered_314 B34 B265 Q a2 a5 a6 a7 a12 a13 a4 y104 z106) ∧ (r105 = (1 : Int32) → wc_L_numbered_303 B34 B265 Q a2 a5 a6 a7 a12 a13 a4 y104 z106))))))))))))
def wc_L_numbered_265 (B34 : Int32 → Int32 → Nat → tq_S → Prop) (Q : tq_O → tq_S → Prop) (a2 : Int64) (a4 : Int32) (a5 : Int32) (a6 : Int32) (a7 : Int32) (a12 : Int32) (a13 : Int32) (x : Nat) (z : tq_S) : Prop := tq_lp (σ := Int32 × Int32 × Nat × tq_S) (fun B s => wb_L_numbered_265 B34 (fun b4 b13 x z => B (b4, b13, x, z)) Q a2 s.1 a5 a6 a7 a12 s.2.1 s.2.2.1 s.2.2.2) (a4, a13, x, z)
theorem ab_L_numbered_265 {K : Nat × (Nat → Int32)} {x : Nat} {Q : tq_O → tq_S → Prop} {B34 : Int32 → Int32 → Nat → tq_S → Prop} {B265 : Int32 → Int32 → Nat → tq_S → Prop} {a2 : Int64} {a4 : Int32} {a5 : Int32} {a6 : Int32} {a7 : Int32} {a12 : Int32} {a13 : Int32} {z : tq_S} (hB34 : ∀ (b4 : Int32) (b7 : Int32) (x : Nat) (z : tq_S), B34 b4 b7 x z → tq_T K 7 x mm_L_numbered 34 [.ref 0, .ref 51, .long a2, .null, .int b4, .int a5, .int a6, .int b7, .null, .null, .null, .null, .null, .null, .null] [] z Q) (hB265 : ∀ (b4 : Int32) (b13 : Int32) (x : Nat) (z : tq_S), B265 b4 b13 x z → tq_T K 7 x mm_L_numbered 265 [.ref 0, .ref 51, .long a2, .null, .int b4, .int a5, .int a6, .int a7, .null, .null, .null, .null, .int a12, .int b13, .null] [] z Q) (h : wb_L_numbered_265 B34 B265 Q a2 a4 a5 a6 a7 a12 a13 x z) : tq_T K 7 x mm_L_numbered 265 [.ref 0, .ref 51, .long a2, .null, .int a4, .int a5, .int a6, .int a7, .null, .null, .null, .null, .int a12, .int a13, .null] [] z Q := by
  unfold wb_L_numbered_265 at h
  refine tq_s_iload (i := 13) (by decide +kernel) rfl ?_
  refine tq_s_iload (i := 12) (by decide +kernel) rfl ?_
  refine tq_icmp_ge (off := 55) (tgt := 324) (by decide +kernel) (by decide +kernel) (fun hc => ?_) (fun hc => ?_)
  · replace h := h.1 hc
    exact tq_to (tq_lk1 (tq_lk1 (tq_lk1 (tq_lk1 (tq_lk1 (tq_lk1 (tq_lk1 (tq_lk1 (tq_lk1 (tq_lk1 (tq_lk1 (tq_lk1 (tq_lk1 (tq_ld1 (tq_lk1 tq_l0))))))))))))))) (ac_L_numbered_324 hB34 h)
  · replace h := h.2 hc
    refine tq_s_iload (i := 13) (by decide +kernel) rfl ?_
    refine tq_k_bi (n := 6) (v := (6 : Int32)) (by decide +kernel) kb_6 ?_
    refine tq_icmp_ge (off := 48) (tgt := 324) (by decide +kernel) (by decide +kernel) (fun hc => ?_) (fun hc => ?_)
    · replace h := h.1 hc
      exact tq_to (tq_lk1 (tq_lk1 (tq_lk1 (tq_lk1 (tq_lk1 (tq_lk1 (tq_lk1 (tq_lk1 (tq_lk1 (tq_lk1 (tq_lk1 (tq_lk1 (tq_lk1 (tq_ld1 (tq_lk1 tq_l0))))))))))))))) (ac_L_numbered_324 hB34 h)
    · replace h := h.2 hc
      refine tq_s_iload (i := 4) (by decide +kernel) rfl ?_
      refine tq_s_aload_n (kk := 0) (by decide +kernel) rfl ?_
      refine tq_s_iload (i := 13) (by decide +kernel) rfl ?_
      obtain ⟨y101, ey101, h⟩ := h
      refine tq_callSH (as := [.ref 0, .int a13]) (st := [.int a4]) (d1 := 5) (x1 := 1) (x2 := y101) (by decide +kernel) ln_13_184 mf_L_flip rfl (by decide) np_L_flip rfl (Nat.le_of_ble_eq_true rfl) (by decide) (ey101.trans (Nat.add_comm _ _)) (tq_M_mono (am_L_flip (x := 0) h) ?_)
      refine tq_wi_e (fun r102 z103 h => ?_)
      refine tq_if_le (off := 27) (tgt := 314) (by decide +kernel) (by decide +kernel) (fun hc => ?_) (fun hc => ?_)
      · replace h := h.1 hc
        exact tq_to (tq_lk1 (tq_lk1 (tq_lk1 (tq_lk1 (tq_ld1 (tq_lk1 (tq_lk1 (tq_lk1 (tq_lk1 (tq_lk1 (tq_lk1 (tq_lk1 (tq_lk1 (tq_lk1 (tq_lk1 tq_l0))))))))))))))) (ac_L_numbered_314 hB34 hB265 h)
      · replace h := h.2 hc
        refine tq_s_iload (i := 6) (by decide +kernel) rfl ?_
        refine tq_if_eq (off := 11) (tgt := 303) (by decide +kernel) (by decide +kernel) (fun hc => ?_) (fun hc => ?_)
        · replace h := h.1 hc
          exact tq_to (tq_lk1 (tq_lk1 (tq_lk1 (tq_lk1 (tq_ld1 (tq_lk1 (tq_lk1 (tq_lk1 (tq_lk1 (tq_lk1 (tq_lk1 (tq_lk1 (tq_lk1 (tq_lk1 (tq_lk1 tq_l0))))))))))))))) (ac_L_numbered_303 hB34 hB265 h)
        · replace h := h.2 hc
          refine tq_s_aload_n (kk := 0) (by decide +kernel) rfl ?_
          obtain ⟨y104, ey104, h⟩ := h
          refine tq_callSH (as := [.ref 0]) (st := [.int a4]) (d1 := 6) (x1 := 1) (x2 := y104) (by decide +kernel) ln_13_180 mf_L_apart rfl (by decide) np_L_apart rfl (Nat.le_of_ble_eq_true rfl) (by decide) (ey104.trans (Nat.add_comm _ _)) (tq_M_mono (am_L_apart (x := 0) h) ?_)
          refine tq_wi_e (fun r105 z106 h => ?_)
          refine tq_k_ic (n := 1) (v := (1 : Int32)) (by decide +kernel) kc_1 ?_
          refine tq_icmp_ne (off := 14) (tgt := 314) (by decide +kernel) (by decide +kernel) (fun hc => ?_) (fun hc => ?_)
          · replace h := h.1 hc
            exact tq_to (tq_lk1 (tq_lk1 (tq_lk1 (tq_lk1 (tq_ld1 (tq_lk1 (tq_lk1 (tq_lk1 (tq_lk1 (tq_lk1 (tq_lk1 (tq_lk1 (tq_lk1 (tq_lk1 (tq_lk1 tq_l0))))))))))))))) (ac_L_numbered_314 hB34 hB265 h)
          · replace h := h.2 hc
            exact tq_to (tq_lk1 (tq_lk1 (tq_lk1 (tq_lk1 (tq_ld1 (tq_lk1 (tq_lk1 (tq_lk1 (tq_lk1 (tq_lk1 (tq_lk1 (tq_lk1 (tq_lk1 (tq_lk1 (tq_lk1 tq_l0))))))))))))))) (ac_L_numbered_303 hB34 hB265 h)
theorem ac_L_numbered_265 {K : Nat × (Nat → Int32)} {x : Nat} {Q : tq_O → tq_S → Prop} {B34 : Int32 → Int32 → Nat → tq_S → Prop} {a2 : Int64} {a4 : Int32} {a5 : Int32} {a6 : Int32} {a7 : Int32} {a12 : Int32} {a13 : Int32} {z : tq_S} (hB34 : ∀ (b4 : Int32) (b7 : Int32) (x : Nat) (z : tq_S), B34 b4 b7 x z → tq_T K 7 x mm_L_numbered 34 [.ref 0, .ref 51, .long a2, .null, .int b4, .int a5, .int a6, .int b7, .null, .null, .null, .null, .null, .null, .null] [] z Q) (h : wc_L_numbered_265 B34 Q a2 a4 a5 a6 a7 a12 a13 x z) : tq_T K 7 x mm_L_numbered 265 [.ref 0, .ref 51, .long a2, .null, .int a4, .int a5, .int a6, .int a7, .null, .null, .null, .null, .int a12, .int a13, .null] [] z Q :=
  tq_lp_T (σ := Int32 × Int32 × Nat × tq_S) (s := (a4, a13, x, z)) (G := fun s => tq_T K 7 s.2.2.1  mm_L_numbered 265 [.ref 0, .ref 51, .long a2, .null, .int s.1, .int a5, .int a6, .int a7, .null, .null, .null, .null, .int a12, .int s.2.1, .null] [] s.2.2.2 Q) (fun B hB s h => ab_L_numbered_265 hB34 (fun b4 b13 x z h => hB (b4, b13, x, z) h) h) h
def wc_L_numbered_253 (B34 : Int32 → Int32 → Nat → tq_S → Prop) (Q : tq_O → tq_S → Prop) (a2 : Int64) (a5 : Int32) (a6 : Int32) (a7 : Int32) (s0 : Int32) (s1 : Int32) (x : Nat) (z : tq_S) : Prop := ∀ v101 : Int32, v101 = (s1 &&& s0) → ∃ y102 : Nat, x = y102 + 1 ∧ wm_L_flips z (tq_wi fun r103 z104 => wc_L_numbered_265 B34 Q a2 v101 a5 a6 a7 r103 (0 : Int32) y102 z104)
theorem ac_L_numbered_253 {K : Nat × (Nat → Int32)} {x : Nat} {Q : tq_O → tq_S → Prop} {B34 : Int32 → Int32 → Nat → tq_S → Prop} {a2 : Int64} {a5 : Int32} {a6 : Int32} {a7 : Int32} {s0 : Int32} {s1 : Int32} {z : tq_S} (hB34 : ∀ (b4 : Int32) (b7 : Int32) (x : Nat) (z : tq_S), B34 b4 b7 x z → tq_T K 7 x mm_L_numbered 34 [.ref 0, .ref 51, .long a2, .null, .int b4, .int a5, .int a6, .int b7, .null, .null, .null, .null, .null, .null, .null] [] z Q) (h : wc_L_numbered_253 B34 Q a2 a5 a6 a7 s0 s1 x z) : tq_T K 7 x mm_L_numbered 253 [.ref 0, .ref 51, .long a2, .null, .null, .int a5, .int a6, .int a7, .null, .null, .null, .null, .null, .null, .null] [.int s0, .int s1] z Q := by
  unfold wc_L_numbered_253 at h
  refine tq_s_iand (by decide +kernel) ?_
  refine tq_g_istore (i := 4) (fun v101 => [.ref 0, .ref 51, .long a2, .null, .int v101, .int a5, .int a6, .int a7, .null, .null, .null, .null, .null, .null, .null]) (by decide +kernel) (by decide) (fun _ => rfl) (fun v101 ev101 => ?_)
  replace h := h v101 ev101
  refine tq_s_aload_n (kk := 0) (by decide +kernel) rfl ?_
  obtain ⟨y102, ey102, h⟩ := h
  refine tq_callSH (as := [.ref 0]) (st := []) (d1 := 5) (x1 := 1) (x2 := y102) (by decide +kernel) ln_13_182 mf_L_flips rfl (by decide) np_L_flips rfl (Nat.le_of_ble_eq_true rfl) (by decide) (ey102.trans (Nat.add_comm _ _)) (tq_M_mono (am_L_flips (x := 0) h) ?_)
  refine tq_wi_e (fun r103 z104 h => ?_)
  refine tq_s_istore (i := 12) (L9 := [.ref 0, .ref 51, .long a2, .null, .int v101, .int a5, .int a6, .int a7, .null, .null, .null, .null, .int r103, .null, .null]) (by decide +kernel) (by decide) rfl ?_
  refine tq_k_ic (n := 0) (v := (0 : Int32)) (by decide +kernel) kc_0 ?_
  refine tq_s_istore (i := 13) (L9 := [.ref 0, .ref 51, .long a2, .null, .int v101, .int a5, .int a6, .int a7, .null, .null, .null, .null, .int r103, .int (0 : Int32), .null]) (by decide +kernel) (by decide) rfl ?_
  exact ac_L_numbered_265 hB34 h
def wc_L_numbered_248 (B34 : Int32 → Int32 → Nat → tq_S → Prop) (Q : tq_O → tq_S → Prop) (a2 : Int64) (a5 : Int32) (a6 : Int32) (a7 : Int32) (s0 : Int32) (x : Nat) (z : tq_S) : Prop := wc_L_numbered_253 B34 Q a2 a5 a6 a7 (1 : Int32) s0 x z
theorem ac_L_numbered_248 {K : Nat × (Nat → Int32)} {x : Nat} {Q : tq_O → tq_S → Prop} {B34 : Int32 → Int32 → Nat → tq_S → Prop} {a2 : Int64} {a5 : Int32} {a6 : Int32} {a7 : Int32} {s0 : Int32} {z : tq_S} (hB34 : ∀ (b4 : Int32) (b7 : Int32) (x : Nat) (z : tq_S), B34 b4 b7 x z → tq_T K 7 x mm_L_numbered 34 [.ref 0, .ref 51, .long a2, .null, .int b4, .int a5, .int a6, .int b7, .null, .null, .null, .null, .null, .null, .null] [] z Q) (h : wc_L_numbered_248 B34 Q a2 a5 a6 a7 s0 x z) : tq_T K 7 x mm_L_numbered 248 [.ref 0, .ref 51, .long a2, .null, .null, .int a5, .int a6, .int a7, .null, .null, .null, .null, .null, .null, .null] [.int s0] z Q := by
  unfold wc_L_numbered_248 at h
  refine tq_k_ic (n := 1) (v := (1 : Int32)) (by decide +kernel) kc_1 ?_
  refine tq_s_goto (off := 4) (tgt := 253) (by decide +kernel) (by decide +kernel) ?_
  exact ac_L_numbered_253 hB34 h
def wc_L_numbered_252 (B34 : Int32 → Int32 → Nat → tq_S → Prop) (Q : tq_O → tq_S → Prop) (a2 : Int64) (a5 : Int32) (a6 : Int32) (a7 : Int32) (s0 : Int32) (x : Nat) (z : tq_S) : Prop := wc_L_numbered_253 B34 Q a2 a5 a6 a7 (0 : Int32) s0 x z
theorem ac_L_numbered_252 {K : Nat × (Nat → Int32)} {x : Nat} {Q : tq_O → tq_S → Prop} {B34 : Int32 → Int32 → Nat → tq_S → Prop} {a2 : Int64} {a5 : Int32} {a6 : Int32} {a7 : Int32} {s0 : Int32} {z : tq_S} (hB34 : ∀ (b4 : Int32) (b7 : Int32) (x : Nat) (z : tq_S), B34 b4 b7 x z → tq_T K 7 x mm_L_numbered 34 [.ref 0, .ref 51, .long a2, .null, .int b4, .int a5, .int a6, .int b7, .null, .null, .null, .null, .null, .null, .null] [] z Q) (h : wc_L_numbered_252 B34 Q a2 a5 a6 a7 s0 x z) : tq_T K 7 x mm_L_numbered 252 [.ref 0, .ref 51, .long a2, .null, .null, .int a5, .int a6, .int a7, .null, .null, .null, .null, .null, .null, .null] [.int s0] z Q := by
  unfold wc_L_numbered_252 at h
  refine tq_k_ic (n := 0) (v := (0 : Int32)) (by decide +kernel) kc_0 ?_
  exact ac_L_numbered_253 hB34 h
def wc_L_numbered_220 (B34 : Int32 → Int32 → Nat → tq_S → Prop) (Q : tq_O → tq_S → Prop) (a2 : Int64) (a5 : Int32) (a6 : Int32) (a7 : Int32) (s0 : Int32) (s1 : Int32) (x : Nat) (z : tq_S) : Prop := ∀ v101 : Int32, v101 = (s1 &&& s0) → ∃ y102 : Nat, x = y102 + 1 ∧ wm_L_keep z (tq_wi fun r103 z104 => ∃ y105 : Nat, y102 = y105 + 1 ∧ wm_L_cuts z104 (tq_wi fun r106 z107 => ((¬ r103 = r106 → wc_L_numbered_252 B34 Q a2 a5 a6 a7 v101 y105 z107) ∧ (r103 = r106 → ((a6 = 0 → wc_L_numbered_248 B34 Q a2 a5 a6 a7 v101 y105 z107) ∧ (¬ a6 = 0 → ∃ y108 : Nat, y105 = y108 + 1 ∧ wm_L_apart z107 (tq_wi fun r109 z110 => ((¬ r109 = 0 → wc_L_numbered_252 B34 Q a2 a5 a6 a7 v101 y108 z110) ∧ (r109 = 0 → wc_L_numbered_248 B34 Q a2 a5 a6 a7 v101 y108 z110)))))))))
theorem ac_L_numbered_220 {K : Nat × (Nat → Int32)} {x : Nat} {Q : tq_O → tq_S → Prop} {B34 : Int32 → Int32 → Nat → tq_S → Prop} {a2 : Int64} {a5 : Int32} {a6 : Int32} {a7 : Int32} {s0 : Int32} {s1 : Int32} {z : tq_S} (hB34 : ∀ (b4 : Int32) (b7 : Int32) (x : Nat) (z : tq_S), B34 b4 b7 x z → tq_T K 7 x mm_L_numbered 34 [.ref 0, .ref 51, .long a2, .null, .int b4, .int a5, .int a6, .int b7, .null, .null, .null, .null, .null, .null, .null] [] z Q) (h : wc_L_numbered_220 B34 Q a2 a5 a6 a7 s0 s1 x z) : tq_T K 7 x mm_L_numbered 220 [.ref 0, .ref 51, .long a2, .null, .null, .int a5, .int a6, .int a7, .null, .null, .null, .null, .null, .null, .null] [.int s0, .int s1] z Q := by
  unfold wc_L_numbered_220 at h
  refine tq_s_iand (by decide +kernel) ?_
  refine tq_g_istore (i := 4) (fun v101 => [.ref 0, .ref 51, .long a2, .null, .int v101, .int a5, .int a6, .int a7, .null, .null, .null, .null, .null, .null, .null]) (by decide +kernel) (by decide) (fun _ => rfl) (fun v101 ev101 => ?_)
  replace h := h v101 ev101
  refine tq_s_iload (i := 4) (by decide +kernel) rfl ?_
  refine tq_s_aload_n (kk := 0) (by decide +kernel) rfl ?_
  obtain ⟨y102, ey102, h⟩ := h
  refine tq_callSH (as := [.ref 0]) (st := [.int v101]) (d1 := 2) (x1 := 1) (x2 := y102) (by decide +kernel) ln_13_176 mf_L_keep rfl (by decide) np_L_keep rfl (Nat.le_of_ble_eq_true rfl) (by decide) (ey102.trans (Nat.add_comm _ _)) (tq_M_mono (am_L_keep (x := 0) h) ?_)
  refine tq_wi_e (fun r103 z104 h => ?_)
  refine tq_s_aload_n (kk := 0) (by decide +kernel) rfl ?_
  obtain ⟨y105, ey105, h⟩ := h
  refine tq_callSH (as := [.ref 0]) (st := [.int r103, .int v101]) (d1 := 2) (x1 := 1) (x2 := y105) (by decide +kernel) ln_13_178 mf_L_cuts rfl (by decide) np_L_cuts rfl (Nat.le_of_ble_eq_true rfl) (by decide) (ey105.trans (Nat.add_comm _ _)) (tq_M_mono (am_L_cuts (x := 0) h) ?_)
  refine tq_wi_e (fun r106 z107 h => ?_)
  refine tq_icmp_ne (off := 19) (tgt := 252) (by decide +kernel) (by decide +kernel) (fun hc => ?_) (fun hc => ?_)
  · replace h := h.1 hc
    exact tq_to (tq_lk1 (tq_lk1 (tq_lk1 (tq_lk1 (tq_ld1 (tq_lk1 (tq_lk1 (tq_lk1 (tq_lk1 (tq_lk1 (tq_lk1 (tq_lk1 (tq_lk1 (tq_lk1 (tq_lk1 tq_l0))))))))))))))) (ac_L_numbered_252 hB34 h)
  · replace h := h.2 hc
    refine tq_s_iload (i := 6) (by decide +kernel) rfl ?_
    refine tq_if_eq (off := 10) (tgt := 248) (by decide +kernel) (by decide +kernel) (fun hc => ?_) (fun hc => ?_)
    · replace h := h.1 hc
      exact tq_to (tq_lk1 (tq_lk1 (tq_lk1 (tq_lk1 (tq_ld1 (tq_lk1 (tq_lk1 (tq_lk1 (tq_lk1 (tq_lk1 (tq_lk1 (tq_lk1 (tq_lk1 (tq_lk1 (tq_lk1 tq_l0))))))))))))))) (ac_L_numbered_248 hB34 h)
    · replace h := h.2 hc
      refine tq_s_aload_n (kk := 0) (by decide +kernel) rfl ?_
      obtain ⟨y108, ey108, h⟩ := h
      refine tq_callSH (as := [.ref 0]) (st := [.int v101]) (d1 := 6) (x1 := 1) (x2 := y108) (by decide +kernel) ln_13_180 mf_L_apart rfl (by decide) np_L_apart rfl (Nat.le_of_ble_eq_true rfl) (by decide) (ey108.trans (Nat.add_comm _ _)) (tq_M_mono (am_L_apart (x := 0) h) ?_)
      refine tq_wi_e (fun r109 z110 h => ?_)
      refine tq_if_ne (off := 7) (tgt := 252) (by decide +kernel) (by decide +kernel) (fun hc => ?_) (fun hc => ?_)
      · replace h := h.1 hc
        exact tq_to (tq_lk1 (tq_lk1 (tq_lk1 (tq_lk1 (tq_ld1 (tq_lk1 (tq_lk1 (tq_lk1 (tq_lk1 (tq_lk1 (tq_lk1 (tq_lk1 (tq_lk1 (tq_lk1 (tq_lk1 tq_l0))))))))))))))) (ac_L_numbered_252 hB34 h)
      · replace h := h.2 hc
        exact tq_to (tq_lk1 (tq_lk1 (tq_lk1 (tq_lk1 (tq_ld1 (tq_lk1 (tq_lk1 (tq_lk1 (tq_lk1 (tq_lk1 (tq_lk1 (tq_lk1 (tq_lk1 (tq_lk1 (tq_lk1 tq_l0))))))))))))))) (ac_L_numbered_248 hB34 h)
def wc_L_numbered_219 (B34 : Int32 → Int32 → Nat → tq_S → Prop) (Q : tq_O → tq_S → Prop) (a2 : Int64) (a5 : Int32) (a6 : Int32) (a7 : Int32) (s0 : Int32) (x : Nat) (z : tq_S) : Prop := wc_L_numbered_220 B34 Q a2 a5 a6 a7 (0 : Int32) s0 x z
theorem ac_L_numbered_219 {K : Nat × (Nat → Int32)} {x : Nat} {Q : tq_O → tq_S → Prop} {B34 : Int32 → Int32 → Nat → tq_S → Prop} {a2 : Int64} {a5 : Int32} {a6 : Int32} {a7 : Int32} {s0 : Int32} {z : tq_S} (hB34 : ∀ (b4 : Int32) (b7 : Int32) (x : Nat) (z : tq_S), B34 b4 b7 x z → tq_T K 7 x mm_L_numbered 34 [.ref 0, .ref 51, .long a2, .null, .int b4, .int a5, .int a6, .int b7, .null, .null, .null, .null, .null, .null, .null] [] z Q) (h : wc_L_numbered_219 B34 Q a2 a5 a6 a7 s0 x z) : tq_T K 7 x mm_L_numbered 219 [.ref 0, .ref 51, .long a2, .null, .null, .int a5, .int a6, .int a7, .null, .null, .null, .null, .null, .null, .null] [.int s0] z Q := by
  unfold wc_L_numbered_219 at h
  refine tq_k_ic (n := 0) (v := (0 : Int32)) (by decide +kernel) kc_0 ?_
  exact ac_L_numbered_220 hB34 h
def wc_L_numbered_173 (B34 : Int32 → Int32 → Nat → tq_S → Prop) (Q : tq_O → tq_S → Prop) (a2 : Int64) (a5 : Int32) (a6 : Int32) (a7 : Int32) (a10 : Int64) (s0 : Int32) (s1 : Int32) (s2 : Int32) (x : Nat) (z : tq_S) : Prop := ((¬ s1 = s0 → wc_L_numbered_219 B34 Q a2 a5 a6 a7 s2 x z) ∧ (s1 = s0 → ∃ y101 : Nat, x = y101 + 1 ∧ wm_L_number z (tq_wi fun r102 z103 => ∃ y104 : Nat, y101 = y104 + 400 ∧ wm_L_told r102 z103 (tq_wl fun r105 z106 => ((¬ r105 = a10 → wc_L_numbered_219 B34 Q a2 a5 a6 a7 s2 y104 z106) ∧ (r105 = a10 → ∃ y107 : Nat, y104 = y107 + 1 ∧ wm_L_undo z106 (tq_wi fun r108 z109 => ((r108 < 0 → wc_L_numbered_219 B34 Q a2 a5 a6 a7 s2 y107 z109) ∧ (¬ r108 < 0 → ∃ y110 : Nat, y107 = y110 + 1 ∧ wm_L_number z109 (tq_wi fun r111 z112 => ∃ y113 : Nat, y110 = y113 + 400 ∧ wm_L_told r111 z112 (tq_wl fun r114 z115 => (¬ a2 = 0) ∧ ((¬ r114 = ((a10 + (1 : Int64)) - (a10 + (1 : Int64)) / a2 * a2) → wc_L_numbered_219 B34 Q a2 a5 a6 a7 s2 y113 z115) ∧ (r114 = ((a10 + (1 : Int64)) - (a10 + (1 : Int64)) / a2 * a2) → wc_L_numbered_220 B34 Q a2 a5 a6 a7 (1 : Int32) s2 y113 z115)))))))))))))
theorem ac_L_numbered_173 {K : Nat × (Nat → Int32)} {x : Nat} {Q : tq_O → tq_S → Prop} {B34 : Int32 → Int32 → Nat → tq_S → Prop} {a2 : Int64} {a5 : Int32} {a6 : Int32} {a7 : Int32} {a10 : Int64} {s0 : Int32} {s1 : Int32} {s2 : Int32} {z : tq_S} (hB34 : ∀ (b4 : Int32) (b7 : Int32) (x : Nat) (z : tq_S), B34 b4 b7 x z → tq_T K 7 x mm_L_numbered 34 [.ref 0, .ref 51, .long a2, .null, .int b4, .int a5, .int a6, .int b7, .null, .null, .null, .null, .null, .null, .null] [] z Q) (h : wc_L_numbered_173 B34 Q a2 a5 a6 a7 a10 s0 s1 s2 x z) : tq_T K 7 x mm_L_numbered 173 [.ref 0, .ref 51, .long a2, .null, .null, .int a5, .int a6, .int a7, .null, .null, .long a10, .null, .null, .null, .null] [.int s0, .int s1, .int s2] z Q := by
  unfold wc_L_numbered_173 at h
  refine tq_icmp_ne (off := 46) (tgt := 219) (by decide +kernel) (by decide +kernel) (fun hc => ?_) (fun hc => ?_)
  · replace h := h.1 hc
    exact tq_to (tq_lk1 (tq_lk1 (tq_lk1 (tq_lk1 (tq_lk1 (tq_lk1 (tq_lk1 (tq_lk1 (tq_lk1 (tq_lk1 (tq_ld1 (tq_lk1 (tq_lk1 (tq_lk1 (tq_lk1 tq_l0))))))))))))))) (ac_L_numbered_219 hB34 h)
  · replace h := h.2 hc
    refine tq_s_aload_n (kk := 0) (by decide +kernel) rfl ?_
    refine tq_s_aload_n (kk := 0) (by decide +kernel) rfl ?_
    obtain ⟨y101, ey101, h⟩ := h
    refine tq_callSH (as := [.ref 0]) (st := [.ref 0, .int s2]) (d1 := 5) (x1 := 1) (x2 := y101) (by decide +kernel) ln_13_168 mf_L_number rfl (by decide) np_L_number rfl (Nat.le_of_ble_eq_true rfl) (by decide) (ey101.trans (Nat.add_comm _ _)) (tq_M_mono (am_L_number (x := 0) h) ?_)
    refine tq_wi_e (fun r102 z103 h => ?_)
    obtain ⟨y104, ey104, h⟩ := h
    refine tq_callS (as := [.ref 0, .int r102]) (st := [.int s2]) (d1 := 2) (x1 := 400) (x2 := y104) (by decide +kernel) ln_13_151 mf_L_told rfl (by decide) np_L_told rfl (Nat.le_of_ble_eq_true rfl) (by decide) (ey104.trans (Nat.add_comm _ _)) (tq_M_mono (am_L_told h) ?_)
    refine tq_wl_e (fun r105 z106 h => ?_)
    refine tq_s_lload (i := 10) (by decide +kernel) rfl ?_
    refine tq_lcmp_ne (off := 32) (tgt := 219) (by decide +kernel) (by decide +kernel) (by decide +kernel) (fun hc => ?_) (fun hc => ?_)
    · replace h := h.1 hc
      exact tq_to (tq_lk1 (tq_lk1 (tq_lk1 (tq_lk1 (tq_lk1 (tq_lk1 (tq_lk1 (tq_lk1 (tq_lk1 (tq_lk1 (tq_ld1 (tq_lk1 (tq_lk1 (tq_lk1 (tq_lk1 tq_l0))))))))))))))) (ac_L_numbered_219 hB34 h)
    · replace h := h.2 hc
      refine tq_s_aload_n (kk := 0) (by decide +kernel) rfl ?_
      obtain ⟨y107, ey107, h⟩ := h
      refine tq_callSH (as := [.ref 0]) (st := [.int s2]) (d1 := 2) (x1 := 1) (x2 := y107) (by decide +kernel) ln_13_174 mf_L_undo rfl (by decide) np_L_undo rfl (Nat.le_of_ble_eq_true rfl) (by decide) (ey107.trans (Nat.add_comm _ _)) (tq_M_mono (am_L_undo (x := 0) h) ?_)
      refine tq_wi_e (fun r108 z109 h => ?_)
      refine tq_if_lt (off := 25) (tgt := 219) (by decide +kernel) (by decide +kernel) (fun hc => ?_) (fun hc => ?_)
      · replace h := h.1 hc
        exact tq_to (tq_lk1 (tq_lk1 (tq_lk1 (tq_lk1 (tq_lk1 (tq_lk1 (tq_lk1 (tq_lk1 (tq_lk1 (tq_lk1 (tq_ld1 (tq_lk1 (tq_lk1 (tq_lk1 (tq_lk1 tq_l0))))))))))))))) (ac_L_numbered_219 hB34 h)
      · replace h := h.2 hc
        refine tq_s_aload_n (kk := 0) (by decide +kernel) rfl ?_
        refine tq_s_aload_n (kk := 0) (by decide +kernel) rfl ?_
        obtain ⟨y110, ey110, h⟩ := h
        refine tq_callSH (as := [.ref 0]) (st := [.ref 0, .int s2]) (d1 := 5) (x1 := 1) (x2 := y110) (by decide +kernel) ln_13_168 mf_L_number rfl (by decide) np_L_number rfl (Nat.le_of_ble_eq_true rfl) (by decide) (ey110.trans (Nat.add_comm _ _)) (tq_M_mono (am_L_number (x := 0) h) ?_)
        refine tq_wi_e (fun r111 z112 h => ?_)
        obtain ⟨y113, ey113, h⟩ := h
        refine tq_callS (as := [.ref 0, .int r111]) (st := [.int s2]) (d1 := 2) (x1 := 400) (x2 := y113) (by decide +kernel) ln_13_151 mf_L_told rfl (by decide) np_L_told rfl (Nat.le_of_ble_eq_true rfl) (by decide) (ey113.trans (Nat.add_comm _ _)) (tq_M_mono (am_L_told h) ?_)
        refine tq_wl_e (fun r114 z115 h => ?_)
        refine tq_s_lload (i := 10) (by decide +kernel) rfl ?_
        refine tq_k_lc (n := 1) (v := (1 : Int64)) (by decide +kernel) (by decide +kernel) ?_
        refine tq_s_ladd (by decide +kernel) ?_
        refine tq_s_lload_n (kk := 2) (by decide +kernel) rfl ?_
        refine tq_s_lrem (by decide +kernel) h.1 ?_
        replace h := h.2
        refine tq_lcmp_ne (off := 7) (tgt := 219) (by decide +kernel) (by decide +kernel) (by decide +kernel) (fun hc => ?_) (fun hc => ?_)
        · replace h := h.1 hc
          exact tq_to (tq_lk1 (tq_lk1 (tq_lk1 (tq_lk1 (tq_lk1 (tq_lk1 (tq_lk1 (tq_lk1 (tq_lk1 (tq_lk1 (tq_ld1 (tq_lk1 (tq_lk1 (tq_lk1 (tq_lk1 tq_l0))))))))))))))) (ac_L_numbered_219 hB34 h)
        · replace h := h.2 hc
          refine tq_k_ic (n := 1) (v := (1 : Int32)) (by decide +kernel) kc_1 ?_
          refine tq_s_goto (off := 4) (tgt := 220) (by decide +kernel) (by decide +kernel) ?_
          exact tq_to (tq_lk1 (tq_lk1 (tq_lk1 (tq_lk1 (tq_lk1 (tq_lk1 (tq_lk1 (tq_lk1 (tq_lk1 (tq_lk1 (tq_ld1 (tq_lk1 (tq_lk1 (tq_lk1 (tq_lk1 tq_l0))))))))))))))) (ac_L_numbered_220 hB34 h)
def wc_L_numbered_150 (B34 : Int32 → Int32 → Nat → tq_S → Prop) (Q : tq_O → tq_S → Prop) (a2 : Int64) (a5 : Int32) (a6 : Int32) (a7 : Int32) (a10 : Int64) (s0 : Int32) (s1 : Int32) (x : Nat) (z : tq_S) : Prop := ∀ v101 : Int32, v101 = (s1 &&& s0) → ∃ y102 : Nat, x = y102 + 1 ∧ wm_L_previous z (tq_wi fun r103 z104 => ((a2 ≤ (a10 + (1 : Int64)) → wc_L_numbered_173 B34 Q a2 a5 a6 a7 a10 (0 : Int32) r103 v101 y102 z104) ∧ (¬ a2 ≤ (a10 + (1 : Int64)) → wc_L_numbered_173 B34 Q a2 a5 a6 a7 a10 (1 : Int32) r103 v101 y102 z104)))
theorem ac_L_numbered_150 {K : Nat × (Nat → Int32)} {x : Nat} {Q : tq_O → tq_S → Prop} {B34 : Int32 → Int32 → Nat → tq_S → Prop} {a2 : Int64} {a5 : Int32} {a6 : Int32} {a7 : Int32} {a10 : Int64} {s0 : Int32} {s1 : Int32} {z : tq_S} (hB34 : ∀ (b4 : Int32) (b7 : Int32) (x : Nat) (z : tq_S), B34 b4 b7 x z → tq_T K 7 x mm_L_numbered 34 [.ref 0, .ref 51, .long a2, .null, .int b4, .int a5, .int a6, .int b7, .null, .null, .null, .null, .null, .null, .null] [] z Q) (h : wc_L_numbered_150 B34 Q a2 a5 a6 a7 a10 s0 s1 x z) : tq_T K 7 x mm_L_numbered 150 [.ref 0, .ref 51, .long a2, .null, .null, .int a5, .int a6, .int a7, .null, .null, .long a10, .null, .null, .null, .null] [.int s0, .int s1] z Q := by
  unfold wc_L_numbered_150 at h
  refine tq_s_iand (by decide +kernel) ?_
  refine tq_g_istore (i := 4) (fun v101 => [.ref 0, .ref 51, .long a2, .null, .int v101, .int a5, .int a6, .int a7, .null, .null, .long a10, .null, .null, .null, .null]) (by decide +kernel) (by decide) (fun _ => rfl) (fun v101 ev101 => ?_)
  replace h := h v101 ev101
  refine tq_s_iload (i := 4) (by decide +kernel) rfl ?_
  refine tq_s_aload_n (kk := 0) (by decide +kernel) rfl ?_
  obtain ⟨y102, ey102, h⟩ := h
  refine tq_callSH (as := [.ref 0]) (st := [.int v101]) (d1 := 6) (x1 := 1) (x2 := y102) (by decide +kernel) ln_13_172 mf_L_previous rfl (by decide) np_L_previous rfl (Nat.le_of_ble_eq_true rfl) (by decide) (ey102.trans (Nat.add_comm _ _)) (tq_M_mono (am_L_previous (x := 0) h) ?_)
  refine tq_wi_e (fun r103 z104 h => ?_)
  refine tq_s_lload (i := 10) (by decide +kernel) rfl ?_
  refine tq_k_lc (n := 1) (v := (1 : Int64)) (by decide +kernel) (by decide +kernel) ?_
  refine tq_s_ladd (by decide +kernel) ?_
  refine tq_s_lload_n (kk := 2) (by decide +kernel) rfl ?_
  refine tq_lcmp_ge (off := 7) (tgt := 172) (by decide +kernel) (by decide +kernel) (by decide +kernel) (fun hc => ?_) (fun hc => ?_)
  · replace h := h.1 hc
    refine tq_k_ic (n := 0) (v := (0 : Int32)) (by decide +kernel) kc_0 ?_
    exact tq_to (tq_lk1 (tq_lk1 (tq_lk1 (tq_lk1 (tq_ld1 (tq_lk1 (tq_lk1 (tq_lk1 (tq_lk1 (tq_lk1 (tq_lk1 (tq_lk1 (tq_lk1 (tq_lk1 (tq_lk1 tq_l0))))))))))))))) (ac_L_numbered_173 hB34 h)
  · replace h := h.2 hc
    refine tq_k_ic (n := 1) (v := (1 : Int32)) (by decide +kernel) kc_1 ?_
    refine tq_s_goto (off := 4) (tgt := 173) (by decide +kernel) (by decide +kernel) ?_
    exact tq_to (tq_lk1 (tq_lk1 (tq_lk1 (tq_lk1 (tq_ld1 (tq_lk1 (tq_lk1 (tq_lk1 (tq_lk1 (tq_lk1 (tq_lk1 (tq_lk1 (tq_lk1 (tq_lk1 (tq_lk1 tq_l0))))))))))))))) (ac_L_numbered_173 hB34 h)
def wc_L_numbered_149 (B34 : Int32 → Int32 → Nat → tq_S → Prop) (Q : tq_O → tq_S → Prop) (a2 : Int64) (a5 : Int32) (a6 : Int32) (a7 : Int32) (a10 : Int64) (s0 : Int32) (x : Nat) (z : tq_S) : Prop := wc_L_numbered_150 B34 Q a2 a5 a6 a7 a10 (0 : Int32) s0 x z
theorem ac_L_numbered_149 {K : Nat × (Nat → Int32)} {x : Nat} {Q : tq_O → tq_S → Prop} {B34 : Int32 → Int32 → Nat → tq_S → Prop} {a2 : Int64} {a5 : Int32} {a6 : Int32} {a7 : Int32} {a10 : Int64} {s0 : Int32} {z : tq_S} (hB34 : ∀ (b4 : Int32) (b7 : Int32) (x : Nat) (z : tq_S), B34 b4 b7 x z → tq_T K 7 x mm_L_numbered 34 [.ref 0, .ref 51, .long a2, .null, .int b4, .int a5, .int a6, .int b7, .null, .null, .null, .null, .null, .null, .null] [] z Q) (h : wc_L_numbered_149 B34 Q a2 a5 a6 a7 a10 s0 x z) : tq_T K 7 x mm_L_numbered 149 [.ref 0, .ref 51, .long a2, .null, .null, .int a5, .int a6, .int a7, .null, .null, .long a10, .null, .null, .null, .null] [.int s0] z Q := by
  unfold wc_L_numbered_149 at h
  refine tq_k_ic (n := 0) (v := (0 : Int32)) (by decide +kernel) kc_0 ?_
  exact ac_L_numbered_150 hB34 h
def wc_L_numbered_124 (B34 : Int32 → Int32 → Nat → tq_S → Prop) (Q : tq_O → tq_S → Prop) (a2 : Int64) (a5 : Int32) (a6 : Int32) (a7 : Int32) (a10 : Int64) (s0 : Int32) (s1 : Int32) (s2 : Int32) (x : Nat) (z : tq_S) : Prop := ((¬ s1 = s0 → wc_L_numbered_149 B34 Q a2 a5 a6 a7 a10 s2 x z) ∧ (s1 = s0 → ∃ y101 : Nat, x = y101 + 1 ∧ wm_L_number z (tq_wi fun r102 z103 => ∃ y104 : Nat, y101 = y104 + 400 ∧ wm_L_told r102 z103 (tq_wl fun r105 z106 => (¬ a2 = 0) ∧ ((¬ r105 = ((a10 + (1 : Int64)) - (a10 + (1 : Int64)) / a2 * a2) → wc_L_numbered_149 B34 Q a2 a5 a6 a7 a10 s2 y104 z106) ∧ (r105 = ((a10 + (1 : Int64)) - (a10 + (1 : Int64)) / a2 * a2) → wc_L_numbered_150 B34 Q a2 a5 a6 a7 a10 (1 : Int32) s2 y104 z106))))))
theorem ac_L_numbered_124 {K : Nat × (Nat → Int32)} {x : Nat} {Q : tq_O → tq_S → Prop} {B34 : Int32 → Int32 → Nat → tq_S → Prop} {a2 : Int64} {a5 : Int32} {a6 : Int32} {a7 : Int32} {a10 : Int64} {s0 : Int32} {s1 : Int32} {s2 : Int32} {z : tq_S} (hB34 : ∀ (b4 : Int32) (b7 : Int32) (x : Nat) (z : tq_S), B34 b4 b7 x z → tq_T K 7 x mm_L_numbered 34 [.ref 0, .ref 51, .long a2, .null, .int b4, .int a5, .int a6, .int b7, .null, .null, .null, .null, .null, .null, .null] [] z Q) (h : wc_L_numbered_124 B34 Q a2 a5 a6 a7 a10 s0 s1 s2 x z) : tq_T K 7 x mm_L_numbered 124 [.ref 0, .ref 51, .long a2, .null, .null, .int a5, .int a6, .int a7, .null, .null, .long a10, .null, .null, .null, .null] [.int s0, .int s1, .int s2] z Q := by
  unfold wc_L_numbered_124 at h
  refine tq_icmp_ne (off := 25) (tgt := 149) (by decide +kernel) (by decide +kernel) (fun hc => ?_) (fun hc => ?_)
  · replace h := h.1 hc
    exact ac_L_numbered_149 hB34 h
  · replace h := h.2 hc
    refine tq_s_aload_n (kk := 0) (by decide +kernel) rfl ?_
    refine tq_s_aload_n (kk := 0) (by decide +kernel) rfl ?_
    obtain ⟨y101, ey101, h⟩ := h
    refine tq_callSH (as := [.ref 0]) (st := [.ref 0, .int s2]) (d1 := 5) (x1 := 1) (x2 := y101) (by decide +kernel) ln_13_168 mf_L_number rfl (by decide) np_L_number rfl (Nat.le_of_ble_eq_true rfl) (by decide) (ey101.trans (Nat.add_comm _ _)) (tq_M_mono (am_L_number (x := 0) h) ?_)
    refine tq_wi_e (fun r102 z103 h => ?_)
    obtain ⟨y104, ey104, h⟩ := h
    refine tq_callS (as := [.ref 0, .int r102]) (st := [.int s2]) (d1 := 2) (x1 := 400) (x2 := y104) (by decide +kernel) ln_13_151 mf_L_told rfl (by decide) np_L_told rfl (Nat.le_of_ble_eq_true rfl) (by decide) (ey104.trans (Nat.add_comm _ _)) (tq_M_mono (am_L_told h) ?_)
    refine tq_wl_e (fun r105 z106 h => ?_)
    refine tq_s_lload (i := 10) (by decide +kernel) rfl ?_
    refine tq_k_lc (n := 1) (v := (1 : Int64)) (by decide +kernel) (by decide +kernel) ?_
    refine tq_s_ladd (by decide +kernel) ?_
    refine tq_s_lload_n (kk := 2) (by decide +kernel) rfl ?_
    refine tq_s_lrem (by decide +kernel) h.1 ?_
    replace h := h.2
    refine tq_lcmp_ne (off := 7) (tgt := 149) (by decide +kernel) (by decide +kernel) (by decide +kernel) (fun hc => ?_) (fun hc => ?_)
    · replace h := h.1 hc
      exact ac_L_numbered_149 hB34 h
    · replace h := h.2 hc
      refine tq_k_ic (n := 1) (v := (1 : Int32)) (by decide +kernel) kc_1 ?_
      refine tq_s_goto (off := 4) (tgt := 150) (by decide +kernel) (by decide +kernel) ?_
      exact ac_L_numbered_150 hB34 h
def wc_L_numbered_73 (B34 : Int32 → Int32 → Nat → tq_S → Prop) (Q : tq_O → tq_S → Prop) (a2 : Int64) (a5 : Int32) (a6 : Int32) (a7 : Int32) (a8 : Int64) (s0 : Int32) (s1 : Int32) (x : Nat) (z : tq_S) : Prop := ∀ v101 : Int32, v101 = (s1 &&& s0) → (¬ a2 = 0) ∧ (¬ a2 = 0) ∧ ∀ v102 : Int64, v102 = ((((a8 - (20000 : Int64)) - (a8 - (20000 : Int64)) / a2 * a2) + a2) - (((a8 - (20000 : Int64)) - (a8 - (20000 : Int64)) / a2 * a2) + a2) / a2 * a2) → ∃ y103 : Nat, x = y103 + 1 ∧ wm_L_number z (tq_wi fun r104 z105 => ∃ y106 : Nat, y103 = y106 + 400 ∧ wm_L_told r104 z105 (tq_wl fun r107 z108 => ((¬ r107 = v102 → wc_L_numbered_149 B34 Q a2 a5 a6 a7 v102 v101 y106 z108) ∧ (r107 = v102 → ∃ y109 : Nat, y106 = y109 + 1 ∧ wm_L_next z108 (tq_wi fun r110 z111 => ((a2 ≤ (v102 + (1 : Int64)) → wc_L_numbered_124 B34 Q a2 a5 a6 a7 v102 (0 : Int32) r110 v101 y109 z111) ∧ (¬ a2 ≤ (v102 + (1 : Int64)) → wc_L_numbered_124 B34 Q a2 a5 a6 a7 v102 (1 : Int32) r110 v101 y109 z111)))))))
theorem ac_L_numbered_73 {K : Nat × (Nat → Int32)} {x : Nat} {Q : tq_O → tq_S → Prop} {B34 : Int32 → Int32 → Nat → tq_S → Prop} {a2 : Int64} {a5 : Int32} {a6 : Int32} {a7 : Int32} {a8 : Int64} {s0 : Int32} {s1 : Int32} {z : tq_S} (hB34 : ∀ (b4 : Int32) (b7 : Int32) (x : Nat) (z : tq_S), B34 b4 b7 x z → tq_T K 7 x mm_L_numbered 34 [.ref 0, .ref 51, .long a2, .null, .int b4, .int a5, .int a6, .int b7, .null, .null, .null, .null, .null, .null, .null] [] z Q) (h : wc_L_numbered_73 B34 Q a2 a5 a6 a7 a8 s0 s1 x z) : tq_T K 7 x mm_L_numbered 73 [.ref 0, .ref 51, .long a2, .null, .null, .int a5, .int a6, .int a7, .long a8, .null, .null, .null, .null, .null, .null] [.int s0, .int s1] z Q := by
  unfold wc_L_numbered_73 at h
  refine tq_s_iand (by decide +kernel) ?_
  refine tq_g_istore (i := 4) (fun v101 => [.ref 0, .ref 51, .long a2, .null, .int v101, .int a5, .int a6, .int a7, .long a8, .null, .null, .null, .null, .null, .null]) (by decide +kernel) (by decide) (fun _ => rfl) (fun v101 ev101 => ?_)
  replace h := h v101 ev101
  refine tq_s_lload (i := 8) (by decide +kernel) rfl ?_
  refine tq_s_ldc2 (i := 163) (v := (20000 : Int64)) (by decide +kernel) (by decide +kernel) ?_
  refine tq_s_lsub (by decide +kernel) ?_
  refine tq_s_lload_n (kk := 2) (by decide +kernel) rfl ?_
  refine tq_s_lrem (by decide +kernel) h.1 ?_
  replace h := h.2
  refine tq_s_lload_n (kk := 2) (by decide +kernel) rfl ?_
  refine tq_s_ladd (by decide +kernel) ?_
  refine tq_s_lload_n (kk := 2) (by decide +kernel) rfl ?_
  refine tq_s_lrem (by decide +kernel) h.1 ?_
  replace h := h.2
  refine tq_g_lstore (i := 10) (fun v102 => [.ref 0, .ref 51, .long a2, .null, .int v101, .int a5, .int a6, .int a7, .long a8, .null, .long v102, .null, .null, .null, .null]) (by decide +kernel) (by decide) (fun _ => rfl) (fun v102 ev102 => ?_)
  replace h := h v102 ev102
  refine tq_s_iload (i := 4) (by decide +kernel) rfl ?_
  refine tq_s_aload_n (kk := 0) (by decide +kernel) rfl ?_
  refine tq_s_aload_n (kk := 0) (by decide +kernel) rfl ?_
  obtain ⟨y103, ey103, h⟩ := h
  refine tq_callSH (as := [.ref 0]) (st := [.ref 0, .int v101]) (d1 := 5) (x1 := 1) (x2 := y103) (by decide +kernel) ln_13_168 mf_L_number rfl (by decide) np_L_number rfl (Nat.le_of_ble_eq_true rfl) (by decide) (ey103.trans (Nat.add_comm _ _)) (tq_M_mono (am_L_number (x := 0) h) ?_)
  refine tq_wi_e (fun r104 z105 h => ?_)
  obtain ⟨y106, ey106, h⟩ := h
  refine tq_callS (as := [.ref 0, .int r104]) (st := [.int v101]) (d1 := 2) (x1 := 400) (x2 := y106) (by decide +kernel) ln_13_151 mf_L_told rfl (by decide) np_L_told rfl (Nat.le_of_ble_eq_true rfl) (by decide) (ey106.trans (Nat.add_comm _ _)) (tq_M_mono (am_L_told h) ?_)
  refine tq_wl_e (fun r107 z108 h => ?_)
  refine tq_s_lload (i := 10) (by decide +kernel) rfl ?_
  refine tq_lcmp_ne (off := 46) (tgt := 149) (by decide +kernel) (by decide +kernel) (by decide +kernel) (fun hc => ?_) (fun hc => ?_)
  · replace h := h.1 hc
    exact tq_to (tq_lk1 (tq_lk1 (tq_lk1 (tq_lk1 (tq_ld1 (tq_lk1 (tq_lk1 (tq_lk1 (tq_ld1 (tq_lk1 (tq_lk1 (tq_lk1 (tq_lk1 (tq_lk1 (tq_lk1 tq_l0))))))))))))))) (ac_L_numbered_149 hB34 h)
  · replace h := h.2 hc
    refine tq_s_aload_n (kk := 0) (by decide +kernel) rfl ?_
    obtain ⟨y109, ey109, h⟩ := h
    refine tq_callSH (as := [.ref 0]) (st := [.int v101]) (d1 := 6) (x1 := 1) (x2 := y109) (by decide +kernel) ln_13_170 mf_L_next rfl (by decide) np_L_next rfl (Nat.le_of_ble_eq_true rfl) (by decide) (ey109.trans (Nat.add_comm _ _)) (tq_M_mono (am_L_next (x := 0) h) ?_)
    refine tq_wi_e (fun r110 z111 h => ?_)
    refine tq_s_lload (i := 10) (by decide +kernel) rfl ?_
    refine tq_k_lc (n := 1) (v := (1 : Int64)) (by decide +kernel) (by decide +kernel) ?_
    refine tq_s_ladd (by decide +kernel) ?_
    refine tq_s_lload_n (kk := 2) (by decide +kernel) rfl ?_
    refine tq_lcmp_ge (off := 7) (tgt := 123) (by decide +kernel) (by decide +kernel) (by decide +kernel) (fun hc => ?_) (fun hc => ?_)
    · replace h := h.1 hc
      refine tq_k_ic (n := 0) (v := (0 : Int32)) (by decide +kernel) kc_0 ?_
      exact tq_to (tq_lk1 (tq_lk1 (tq_lk1 (tq_lk1 (tq_ld1 (tq_lk1 (tq_lk1 (tq_lk1 (tq_ld1 (tq_lk1 (tq_lk1 (tq_lk1 (tq_lk1 (tq_lk1 (tq_lk1 tq_l0))))))))))))))) (ac_L_numbered_124 hB34 h)
    · replace h := h.2 hc
      refine tq_k_ic (n := 1) (v := (1 : Int32)) (by decide +kernel) kc_1 ?_
      refine tq_s_goto (off := 4) (tgt := 124) (by decide +kernel) (by decide +kernel) ?_
      exact tq_to (tq_lk1 (tq_lk1 (tq_lk1 (tq_lk1 (tq_ld1 (tq_lk1 (tq_lk1 (tq_lk1 (tq_ld1 (tq_lk1 (tq_lk1 (tq_lk1 (tq_lk1 (tq_lk1 (tq_lk1 tq_l0))))))))))))))) (ac_L_numbered_124 hB34 h)
def wb_L_numbered_34 (B34 : Int32 → Int32 → Nat → tq_S → Prop) (Q : tq_O → tq_S → Prop) (a2 : Int64) (a4 : Int32) (a5 : Int32) (a6 : Int32) (a7 : Int32) (x : Nat) (z : tq_S) : Prop := (((2 : Int32) ≤ a7 → tq_nz a4 ∧ Q (.inl (some (.int a4))) z) ∧ (¬ (2 : Int32) ≤ a7 → wm_L_draw_ (60000 : Int32) z (tq_wi fun r102 z101 => ∀ v103 : Int64, v103 = (Int32.toInt64 r102) → ∃ y104 : Nat, x = y104 + 1 ∧ wm_L_draw (v103 - (20000 : Int64)) z101 (tq_wi fun r105 z106 => ((¬ r105 = (a5 / (2 : Int32)) → wc_L_numbered_73 B34 Q a2 a5 a6 a7 v103 (0 : Int32) a4 y104 z106) ∧ (r105 = (a5 / (2 : Int32)) → wc_L_numbered_73 B34 Q a2 a5 a6 a7 v103 (1 : Int32) a4 y104 z106))))))
def wc_L_numbered_34 (Q : tq_O → tq_S → Prop) (a2 : Int64) (a4 : Int32) (a5 : Int32) (a6 : Int32) (a7 : Int32) (x : Nat) (z : tq_S) : Prop := tq_lp (σ := Int32 × Int32 × Nat × tq_S) (fun B s => wb_L_numbered_34 (fun b4 b7 x z => B (b4, b7, x, z)) Q a2 s.1 a5 a6 s.2.1 s.2.2.1 s.2.2.2) (a4, a7, x, z)
theorem ab_L_numbered_34 {K : Nat × (Nat → Int32)} {x : Nat} {Q : tq_O → tq_S → Prop} {B34 : Int32 → Int32 → Nat → tq_S → Prop} {a2 : Int64} {a4 : Int32} {a5 : Int32} {a6 : Int32} {a7 : Int32} {z : tq_S} (hB34 : ∀ (b4 : Int32) (b7 : Int32) (x : Nat) (z : tq_S), B34 b4 b7 x z → tq_T K 7 x mm_L_numbered 34 [.ref 0, .ref 51, .long a2, .null, .int b4, .int a5, .int a6, .int b7, .null, .null, .null, .null, .null, .null, .null] [] z Q) (h : wb_L_numbered_34 B34 Q a2 a4 a5 a6 a7 x z) : tq_T K 7 x mm_L_numbered 34 [.ref 0, .ref 51, .long a2, .null, .int a4, .int a5, .int a6, .int a7, .null, .null, .null, .null, .null, .null, .null] [] z Q := by
  unfold wb_L_numbered_34 at h
  refine tq_s_iload (i := 7) (by decide +kernel) rfl ?_
  refine tq_k_ic (n := 2) (v := (2 : Int32)) (by decide +kernel) kc_2 ?_
  refine tq_icmp_ge (off := 436) (tgt := 473) (by decide +kernel) (by decide +kernel) (fun hc => ?_) (fun hc => ?_)
  · replace h := h.1 hc
    refine tq_s_iload (i := 4) (by decide +kernel) rfl ?_
    exact tq_ret_z (st := []) (ty := .boolean) (by decide +kernel) (tq_nz_f h.1).1 rfl h.2
  · replace h := h.2 hc
    refine tq_s_aload_n (kk := 1) (by decide +kernel) rfl ?_
    refine tq_s_ldc (i := 162) (v := (60000 : Int32)) (by decide +kernel) (by decide +kernel) ?_
    refine tq_callS (as := [.ref 51, .int (60000 : Int32)]) (st := []) (d1 := 0) (x1 := 0) (x2 := x) (by decide +kernel) ln_13_129 mf_L_draw_ rfl (by decide) np_L_draw_ rfl (Nat.le_of_ble_eq_true rfl) (by decide) (Nat.zero_add _).symm (tq_M_mono (am_L_draw_ h) ?_)
    refine tq_wi_e (fun r102 z101 h => ?_)
    refine tq_s_i2l (by decide +kernel) ?_
    refine tq_g_lstore (i := 8) (fun v103 => [.ref 0, .ref 51, .long a2, .null, .int a4, .int a5, .int a6, .int a7, .long v103, .null, .null, .null, .null, .null, .null]) (by decide +kernel) (by decide) (fun _ => rfl) (fun v103 ev103 => ?_)
    replace h := h v103 ev103
    refine tq_s_iload (i := 4) (by decide +kernel) rfl ?_
    refine tq_s_aload_n (kk := 0) (by decide +kernel) rfl ?_
    refine tq_s_lload (i := 8) (by decide +kernel) rfl ?_
    refine tq_s_ldc2 (i := 163) (v := (20000 : Int64)) (by decide +kernel) (by decide +kernel) ?_
    refine tq_s_lsub (by decide +kernel) ?_
    obtain ⟨y104, ey104, h⟩ := h
    refine tq_callSH (as := [.ref 0, .long (v103 - (20000 : Int64))]) (st := [.int a4]) (d1 := 6) (x1 := 1) (x2 := y104) (by decide +kernel) ln_13_165 mf_L_draw rfl (by decide) np_L_draw rfl (Nat.le_of_ble_eq_true rfl) (by decide) (ey104.trans (Nat.add_comm _ _)) (tq_M_mono (am_L_draw (x := 0) h) ?_)
    refine tq_wi_e (fun r105 z106 h => ?_)
    refine tq_s_iload (i := 5) (by decide +kernel) rfl ?_
    refine tq_k_ic (n := 2) (v := (2 : Int32)) (by decide +kernel) kc_2 ?_
    refine tq_s_idiv (by decide +kernel) (by decide +kernel) ?_
    refine tq_icmp_ne (off := 7) (tgt := 72) (by decide +kernel) (by decide +kernel) (fun hc => ?_) (fun hc => ?_)
    · replace h := h.1 hc
      refine tq_k_ic (n := 0) (v := (0 : Int32)) (by decide +kernel) kc_0 ?_
      exact tq_to (tq_lk1 (tq_lk1 (tq_lk1 (tq_lk1 (tq_ld1 (tq_lk1 (tq_lk1 (tq_lk1 (tq_lk1 (tq_lk1 (tq_lk1 (tq_lk1 (tq_lk1 (tq_lk1 (tq_lk1 tq_l0))))))))))))))) (ac_L_numbered_73 hB34 h)
    · replace h := h.2 hc
      refine tq_k_ic (n := 1) (v := (1 : Int32)) (by decide +kernel) kc_1 ?_
      refine tq_s_goto (off := 4) (tgt := 73) (by decide +kernel) (by decide +kernel) ?_
      exact tq_to (tq_lk1 (tq_lk1 (tq_lk1 (tq_lk1 (tq_ld1 (tq_lk1 (tq_lk1 (tq_lk1 (tq_lk1 (tq_lk1 (tq_lk1 (tq_lk1 (tq_lk1 (tq_lk1 (tq_lk1 tq_l0))))))))))))))) (ac_L_numbered_73 hB34 h)
theorem ac_L_numbered_34 {K : Nat × (Nat → Int32)} {x : Nat} {Q : tq_O → tq_S → Prop} {a2 : Int64} {a4 : Int32} {a5 : Int32} {a6 : Int32} {a7 : Int32} {z : tq_S} (h : wc_L_numbered_34 Q a2 a4 a5 a6 a7 x z) : tq_T K 7 x mm_L_numbered 34 [.ref 0, .ref 51, .long a2, .null, .int a4, .int a5, .int a6, .int a7, .null, .null, .null, .null, .null, .null, .null] [] z Q :=
  tq_lp_T (σ := Int32 × Int32 × Nat × tq_S) (s := (a4, a7, x, z)) (G := fun s => tq_T K 7 s.2.2.1  mm_L_numbered 34 [.ref 0, .ref 51, .long a2, .null, .int s.1, .int a5, .int a6, .int s.2.1, .null, .null, .null, .null, .null, .null, .null] [] s.2.2.2 Q) (fun B hB s h => ab_L_numbered_34 (fun b4 b7 x z h => hB (b4, b7, x, z) h) h) h
def wc_L_numbered_29 (Q : tq_O → tq_S → Prop) (a2 : Int64) (a4 : Int32) (a5 : Int32) (s0 : Int32) (x : Nat) (z : tq_S) : Prop := wc_L_numbered_34 Q a2 a4 a5 s0 (0 : Int32) x z
theorem ac_L_numbered_29 {K : Nat × (Nat → Int32)} {x : Nat} {Q : tq_O → tq_S → Prop} {a2 : Int64} {a4 : Int32} {a5 : Int32} {s0 : Int32} {z : tq_S} (h : wc_L_numbered_29 Q a2 a4 a5 s0 x z) : tq_T K 7 x mm_L_numbered 29 [.ref 0, .ref 51, .long a2, .null, .int a4, .int a5, .null, .null, .null, .null, .null, .null, .null, .null, .null] [.int s0] z Q := by
  unfold wc_L_numbered_29 at h
  refine tq_s_istore (i := 6) (L9 := [.ref 0, .ref 51, .long a2, .null, .int a4, .int a5, .int s0, .null, .null, .null, .null, .null, .null, .null, .null]) (by decide +kernel) (by decide) rfl ?_
  refine tq_k_ic (n := 0) (v := (0 : Int32)) (by decide +kernel) kc_0 ?_
  refine tq_s_istore (i := 7) (L9 := [.ref 0, .ref 51, .long a2, .null, .int a4, .int a5, .int s0, .int (0 : Int32), .null, .null, .null, .null, .null, .null, .null]) (by decide +kernel) (by decide) rfl ?_
  exact ac_L_numbered_34 h
def wm_L_numbered (a2 : Int64) (z : tq_S) (Q : tq_O → tq_S → Prop) : Prop := ∃ y1 : Nat, 20000 = y1 + 1 ∧ wm_L_cells (97 : Int32) z (tq_wi fun r2 z3 => ∃ y4 : Nat, y1 = y4 + 1 ∧ wm_L_bySigns z3 (tq_wi fun r5 z6 => ∃ y7 : Nat, y4 = y7 + 400 ∧ wm_L_told r5 z6 (tq_wl fun r8 z9 => ((r8 < (0 : Int64) → wc_L_numbered_29 Q a2 (1 : Int32) r2 (0 : Int32) y7 z9) ∧ (¬ r8 < (0 : Int64) → wc_L_numbered_29 Q a2 (1 : Int32) r2 (1 : Int32) y7 z9)))))
theorem am_L_numbered {K : Nat × (Nat → Int32)} {z : tq_S} {Q : tq_O → tq_S → Prop} {a2 : Int64} (h : wm_L_numbered a2 z Q) : tq_M K 7 20000 mm_L_numbered [.ref 0, .ref 51, .long a2] z Q := by
  unfold wm_L_numbered at h
  refine tq_enter (L := [.ref 0, .ref 51, .long a2, .null, .null, .null, .null, .null, .null, .null, .null, .null, .null, .null, .null]) mf_L_numbered.1 rfl rfl (Nat.le_of_ble_eq_true rfl) ?_
  refine tq_k_ic (n := 1) (v := (1 : Int32)) (by decide +kernel) kc_1 ?_
  refine tq_s_istore (i := 4) (L9 := [.ref 0, .ref 51, .long a2, .null, .int (1 : Int32), .null, .null, .null, .null, .null, .null, .null, .null, .null, .null]) (by decide +kernel) (by decide) rfl ?_
  refine tq_s_aload_n (kk := 0) (by decide +kernel) rfl ?_
  refine tq_k_bi (n := 97) (v := (97 : Int32)) (by decide +kernel) kb_97 ?_
  obtain ⟨y1, ey1, h⟩ := h
  refine tq_callSH (as := [.ref 0, .int (97 : Int32)]) (st := []) (d1 := 3) (x1 := 1) (x2 := y1) (by decide +kernel) ln_13_138 mf_L_cells rfl (by decide) np_L_cells rfl (Nat.le_of_ble_eq_true rfl) (by decide) (ey1.trans (Nat.add_comm _ _)) (tq_M_mono (am_L_cells (x := 0) h) ?_)
  refine tq_wi_e (fun r2 z3 h => ?_)
  refine tq_s_istore (i := 5) (L9 := [.ref 0, .ref 51, .long a2, .null, .int (1 : Int32), .int r2, .null, .null, .null, .null, .null, .null, .null, .null, .null]) (by decide +kernel) (by decide) rfl ?_
  refine tq_s_aload_n (kk := 0) (by decide +kernel) rfl ?_
  refine tq_s_aload_n (kk := 0) (by decide +kernel) rfl ?_
  obtain ⟨y4, ey4, h⟩ := h
  refine tq_callSH (as := [.ref 0]) (st := [.ref 0]) (d1 := 6) (x1 := 1) (x2 := y4) (by decide +kernel) ln_13_159 mf_L_bySigns rfl (by decide) np_L_bySigns rfl (Nat.le_of_ble_eq_true rfl) (by decide) (ey4.trans (Nat.add_comm _ _)) (tq_M_mono (am_L_bySigns (x := 0) h) ?_)
  refine tq_wi_e (fun r5 z6 h => ?_)
  obtain ⟨y7, ey7, h⟩ := h
  refine tq_callS (as := [.ref 0, .int r5]) (st := []) (d1 := 2) (x1 := 400) (x2 := y7) (by decide +kernel) ln_13_151 mf_L_told rfl (by decide) np_L_told rfl (Nat.le_of_ble_eq_true rfl) (by decide) (ey7.trans (Nat.add_comm _ _)) (tq_M_mono (am_L_told h) ?_)
  refine tq_wl_e (fun r8 z9 h => ?_)
  refine tq_k_lc (n := 0) (v := (0 : Int64)) (by decide +kernel) (by decide +kernel) ?_
  refine tq_lcmp_lt (off := 7) (tgt := 28) (by decide +kernel) (by decide +kernel) (by decide +kernel) (fun hc => ?_) (fun hc => ?_)
  · replace h := h.1 hc
    refine tq_k_ic (n := 0) (v := (0 : Int32)) (by decide +kernel) kc_0 ?_
    exact ac_L_numbered_29 h
  · replace h := h.2 hc
    refine tq_k_ic (n := 1) (v := (1 : Int32)) (by decide +kernel) kc_1 ?_
    refine tq_s_goto (off := 4) (tgt := 29) (by decide +kernel) (by decide +kernel) ?_
    exact ac_L_numbered_29 h
def wm_L_order (a1 : Int32) (z : tq_S) (Q : tq_O → tq_S → Prop) : Prop := wm_X11_order a1 z (fun o z1 => tq_wi (fun r2 z1 => Q (.inl (some (.int r2))) z1) o z1 ∨ (o = .inr 1 ∧ Q (.inl (some (.int (-900001 : Int32)))) z1))
theorem am_L_order {K : Nat × (Nat → Int32)} {x : Nat} {a1 : Int32} {z : tq_S} {Q : tq_O → tq_S → Prop} (h : wm_L_order a1 z Q) : tq_M K 2 (x + 1) mm_L_order [.ref 0, .int a1] z Q := by
  unfold wm_L_order at h
  refine tq_enterH (L := [.ref 0, .int a1, .null]) mf_L_order.1 (by decide +kernel) rfl rfl (Nat.le_of_ble_eq_true rfl) ?_
  refine tq_s_aload_n (kk := 0) (by decide +kernel) rfl ?_
  refine tq_s_iload_n (kk := 1) (by decide +kernel) rfl ?_
  refine tq_callVX (as := [.int a1]) (st := []) (d1 := 1) (x1 := 1) (x2 := x) (by decide +kernel) ln_13_101 mf_X11_order rfl sh_0 rfl (by decide) np_X11_order rfl (Nat.le_of_ble_eq_true rfl) (by decide) (Nat.add_comm _ _) (tq_M_mono (am_X11_order h) ?_)
  intro o z1 h
  rcases h with h | ⟨rfl, h⟩
  · refine Or.inl (tq_wi_e (fun r2 z1 h => ?_) o z1 h)
    exact tq_ret_i (st := []) (by decide +kernel) rfl h
  · refine Or.inr ⟨1, "java/lang/IllegalArgumentException", 6, rfl, rfl, hx_L_order_0, 2, by decide, Or.inl ⟨2, rfl, (by decide +kernel), ?_⟩⟩
    refine tq_s_ldc (i := 15) (v := (-900001 : Int32)) (by decide +kernel) (by decide +kernel) ?_
    exact tq_ret_i (st := []) (by decide +kernel) rfl h
def wm_L_rule (a1 : Int32) (a2 : Int32) (z : tq_S) (Q : tq_O → tq_S → Prop) : Prop := wm_X11_rule a1 a2 z (fun o z1 => tq_wi (fun r2 z1 => Q (.inl (some (.int r2))) z1) o z1 ∨ (o = .inr 1 ∧ Q (.inl (some (.int (-900001 : Int32)))) z1) ∨ (o = .inr 3 ∧ Q (.inl (some (.int (-900002 : Int32)))) z1))
theorem am_L_rule {K : Nat × (Nat → Int32)} {x : Nat} {a1 : Int32} {a2 : Int32} {z : tq_S} {Q : tq_O → tq_S → Prop} (h : wm_L_rule a1 a2 z Q) : tq_M K 5 (x + 1) mm_L_rule [.ref 0, .int a1, .int a2] z Q := by
  unfold wm_L_rule at h
  refine tq_enterH (L := [.ref 0, .int a1, .int a2, .null]) mf_L_rule.1 (by decide +kernel) rfl rfl (Nat.le_of_ble_eq_true rfl) ?_
  refine tq_s_aload_n (kk := 0) (by decide +kernel) rfl ?_
  refine tq_s_iload_n (kk := 1) (by decide +kernel) rfl ?_
  refine tq_s_iload_n (kk := 2) (by decide +kernel) rfl ?_
  refine tq_callVX (as := [.int a1, .int a2]) (st := []) (d1 := 4) (x1 := 1) (x2 := x) (by decide +kernel) ln_13_104 mf_X11_rule rfl sh_0 rfl (by decide) np_X11_rule rfl (Nat.le_of_ble_eq_true rfl) (by decide) (Nat.add_comm _ _) (tq_M_mono (am_X11_rule h) ?_)
  intro o z1 h
  rcases h with h | ⟨rfl, h⟩ | ⟨rfl, h⟩
  · refine Or.inl (tq_wi_e (fun r2 z1 h => ?_) o z1 h)
    exact tq_ret_i (st := []) (by decide +kernel) rfl h
  · refine Or.inr ⟨1, "java/lang/IllegalArgumentException", 7, rfl, rfl, hx_L_rule_0, 3, by decide, Or.inl ⟨3, rfl, (by decide +kernel), ?_⟩⟩
    refine tq_s_ldc (i := 15) (v := (-900001 : Int32)) (by decide +kernel) (by decide +kernel) ?_
    exact tq_ret_i (st := []) (by decide +kernel) rfl h
  · refine Or.inr ⟨3, "java/lang/IndexOutOfBoundsException", 11, rfl, rfl, hx_L_rule_1, 3, by decide, Or.inl ⟨3, rfl, (by decide +kernel), ?_⟩⟩
    refine tq_s_ldc (i := 77) (v := (-900002 : Int32)) (by decide +kernel) (by decide +kernel) ?_
    exact tq_ret_i (st := []) (by decide +kernel) rfl h
def wm_L_strip (a1 : Int32) (a2 : Int32) (z : tq_S) (Q : tq_O → tq_S → Prop) : Prop := wm_X11_strip a1 a2 z (fun o z1 => tq_wi (fun r2 z1 => Q (.inl (some (.int r2))) z1) o z1 ∨ (o = .inr 1 ∧ Q (.inl (some (.int (-900001 : Int32)))) z1))
theorem am_L_strip {K : Nat × (Nat → Int32)} {x : Nat} {a1 : Int32} {a2 : Int32} {z : tq_S} {Q : tq_O → tq_S → Prop} (h : wm_L_strip a1 a2 z Q) : tq_M K 5 (x + 1) mm_L_strip [.ref 0, .int a1, .int a2] z Q := by
  unfold wm_L_strip at h
  refine tq_enterH (L := [.ref 0, .int a1, .int a2, .null]) mf_L_strip.1 (by decide +kernel) rfl rfl (Nat.le_of_ble_eq_true rfl) ?_
  refine tq_s_aload_n (kk := 0) (by decide +kernel) rfl ?_
  refine tq_s_iload_n (kk := 1) (by decide +kernel) rfl ?_
  refine tq_s_iload_n (kk := 2) (by decide +kernel) rfl ?_
  refine tq_callVX (as := [.int a1, .int a2]) (st := []) (d1 := 4) (x1 := 1) (x2 := x) (by decide +kernel) ln_13_98 mf_X11_strip rfl sh_0 rfl (by decide) np_X11_strip rfl (Nat.le_of_ble_eq_true rfl) (by decide) (Nat.add_comm _ _) (tq_M_mono (am_X11_strip h) ?_)
  intro o z1 h
  rcases h with h | ⟨rfl, h⟩
  · refine Or.inl (tq_wi_e (fun r2 z1 h => ?_) o z1 h)
    exact tq_ret_i (st := []) (by decide +kernel) rfl h
  · refine Or.inr ⟨1, "java/lang/IllegalArgumentException", 7, rfl, rfl, hx_L_strip_0, 3, by decide, Or.inl ⟨3, rfl, (by decide +kernel), ?_⟩⟩
    refine tq_s_ldc (i := 15) (v := (-900001 : Int32)) (by decide +kernel) (by decide +kernel) ?_
    exact tq_ret_i (st := []) (by decide +kernel) rfl h
def wm_L_hexagon (a1 : Int32) (a2 : Int32) (a3 : Int32) (z : tq_S) (Q : tq_O → tq_S → Prop) : Prop := wm_X11_hexagon a1 a2 a3 z (fun o z1 => tq_wi (fun r2 z1 => Q (.inl (some (.int r2))) z1) o z1 ∨ (o = .inr 1 ∧ Q (.inl (some (.int (-900001 : Int32)))) z1))
theorem am_L_hexagon {K : Nat × (Nat → Int32)} {x : Nat} {a1 : Int32} {a2 : Int32} {a3 : Int32} {z : tq_S} {Q : tq_O → tq_S → Prop} (h : wm_L_hexagon a1 a2 a3 z Q) : tq_M K 6 (x + 1) mm_L_hexagon [.ref 0, .int a1, .int a2, .int a3] z Q := by
  unfold wm_L_hexagon at h
  refine tq_enterH (L := [.ref 0, .int a1, .int a2, .int a3, .null]) mf_L_hexagon.1 (by decide +kernel) rfl rfl (Nat.le_of_ble_eq_true rfl) ?_
  refine tq_s_aload_n (kk := 0) (by decide +kernel) rfl ?_
  refine tq_s_iload_n (kk := 1) (by decide +kernel) rfl ?_
  refine tq_s_iload_n (kk := 2) (by decide +kernel) rfl ?_
  refine tq_s_iload_n (kk := 3) (by decide +kernel) rfl ?_
  refine tq_callVX (as := [.int a1, .int a2, .int a3]) (st := []) (d1 := 5) (x1 := 1) (x2 := x) (by decide +kernel) ln_13_107 mf_X11_hexagon rfl sh_0 rfl (by decide) np_X11_hexagon rfl (Nat.le_of_ble_eq_true rfl) (by decide) (Nat.add_comm _ _) (tq_M_mono (am_X11_hexagon h) ?_)
  intro o z1 h
  rcases h with h | ⟨rfl, h⟩
  · refine Or.inl (tq_wi_e (fun r2 z1 h => ?_) o z1 h)
    exact tq_ret_i (st := []) (by decide +kernel) rfl h
  · refine Or.inr ⟨1, "java/lang/IllegalArgumentException", 8, rfl, rfl, hx_L_hexagon_0, 4, by decide, Or.inr ⟨(by decide +kernel), ?_⟩⟩
    refine tq_s_ldc (i := 15) (v := (-900001 : Int32)) (by decide +kernel) (by decide +kernel) ?_
    exact tq_ret_i (st := []) (by decide +kernel) rfl h
def wm_L_heaps (a1 : Int32) (a2 : Int32) (a3 : Int32) (z : tq_S) (Q : tq_O → tq_S → Prop) : Prop := wm_X11_heaps a1 a2 a3 z (fun o z1 => tq_wi (fun r2 z1 => Q (.inl (some (.int r2))) z1) o z1 ∨ (o = .inr 1 ∧ Q (.inl (some (.int (-900001 : Int32)))) z1))
theorem am_L_heaps {K : Nat × (Nat → Int32)} {x : Nat} {a1 : Int32} {a2 : Int32} {a3 : Int32} {z : tq_S} {Q : tq_O → tq_S → Prop} (h : wm_L_heaps a1 a2 a3 z Q) : tq_M K 4 (x + 1) mm_L_heaps [.ref 0, .int a1, .int a2, .int a3] z Q := by
  unfold wm_L_heaps at h
  refine tq_enterH (L := [.ref 0, .int a1, .int a2, .int a3, .null]) mf_L_heaps.1 (by decide +kernel) rfl rfl (Nat.le_of_ble_eq_true rfl) ?_
  refine tq_s_aload_n (kk := 0) (by decide +kernel) rfl ?_
  refine tq_s_iload_n (kk := 1) (by decide +kernel) rfl ?_
  refine tq_s_iload_n (kk := 2) (by decide +kernel) rfl ?_
  refine tq_s_iload_n (kk := 3) (by decide +kernel) rfl ?_
  refine tq_callVX (as := [.int a1, .int a2, .int a3]) (st := []) (d1 := 3) (x1 := 1) (x2 := x) (by decide +kernel) ln_13_111 mf_X11_heaps rfl sh_0 rfl (by decide) np_X11_heaps rfl (Nat.le_of_ble_eq_true rfl) (by decide) (Nat.add_comm _ _) (tq_M_mono (am_X11_heaps h) ?_)
  intro o z1 h
  rcases h with h | ⟨rfl, h⟩
  · refine Or.inl (tq_wi_e (fun r2 z1 h => ?_) o z1 h)
    exact tq_ret_i (st := []) (by decide +kernel) rfl h
  · refine Or.inr ⟨1, "java/lang/IllegalArgumentException", 8, rfl, rfl, hx_L_heaps_0, 4, by decide, Or.inr ⟨(by decide +kernel), ?_⟩⟩
    refine tq_s_ldc (i := 15) (v := (-900001 : Int32)) (by decide +kernel) (by decide +kernel) ?_
    exact tq_ret_i (st := []) (by decide +kernel) rfl h
def wc_L_strips_129 (Q : tq_O → tq_S → Prop) (s0 : Int32) (x : Nat) (z : tq_S) : Prop := wm_L_draw_ (4 : Int32) z (tq_wi fun r102 z101 => ∀ v103 : Int32, v103 = ((1 : Int32) + r102) → wm_L_draw_ (4 : Int32) z101 (tq_wi fun r105 z104 => ∀ v106 : Int32, v106 = ((1 : Int32) + r105) → wm_L_draw_ (4 : Int32) z104 (tq_wi fun r108 z107 => ∀ v109 : Int32, v109 = ((1 : Int32) + r108) → ∃ y110 : Nat, x = y110 + 1 ∧ wm_L_hexagon v103 v106 v109 z107 (tq_wi fun r111 z112 => ∃ y113 : Nat, y110 = y113 + 400 ∧ wm_L_told r111 z112 (tq_wl fun r114 z115 => ((s0 = 0 → Q (.inl (some (.int (0 : Int32)))) z115) ∧ (¬ s0 = 0 → ∃ y116 : Nat, y113 = y116 + 1 ∧ wm_L_heaps v103 v106 v109 z115 (tq_wi fun r117 z118 => ∃ y119 : Nat, y116 = y119 + 400 ∧ wm_L_told r117 z118 (tq_wl fun r120 z121 => ((¬ r114 = r120 → Q (.inl (some (.int (0 : Int32)))) z121) ∧ (r114 = r120 → ∃ y122 : Nat, y119 = y122 + 1 ∧ wm_L_hexagon v109 v103 v106 z121 (tq_wi fun r123 z124 => ∃ y125 : Nat, y122 = y125 + 400 ∧ wm_L_told r123 z124 (tq_wl fun r126 z127 => ((¬ r114 = r126 → Q (.inl (some (.int (0 : Int32)))) z127) ∧ (r114 = r126 → ∃ y128 : Nat, y125 = y128 + 1 ∧ wm_L_heaps v106 v103 v109 z127 (tq_wi fun r129 z130 => ∃ y131 : Nat, y128 = y131 + 400 ∧ wm_L_told r129 z130 (tq_wl fun r132 z133 => ((¬ r114 = r132 → Q (.inl (some (.int (0 : Int32)))) z133) ∧ (r114 = r132 → Q (.inl (some (.int (1 : Int32)))) z133)))))))))))))))))))
theorem ac_L_strips_129 {K : Nat × (Nat → Int32)} {x : Nat} {Q : tq_O → tq_S → Prop} {s0 : Int32} {z : tq_S} (h : wc_L_strips_129 Q s0 x z) : tq_T K 7 x mm_L_strips 129 [.ref 0, .ref 51, .null, .null, .null, .null, .null, .null, .null, .null, .null, .null, .null] [.int s0] z Q := by
  unfold wc_L_strips_129 at h
  refine tq_s_istore (i := 7) (L9 := [.ref 0, .ref 51, .null, .null, .null, .null, .null, .int s0, .null, .null, .null, .null, .null]) (by decide +kernel) (by decide) rfl ?_
  refine tq_k_ic (n := 1) (v := (1 : Int32)) (by decide +kernel) kc_1 ?_
  refine tq_s_aload_n (kk := 1) (by decide +kernel) rfl ?_
  refine tq_k_ic (n := 4) (v := (4 : Int32)) (by decide +kernel) kc_4 ?_
  refine tq_callS (as := [.ref 51, .int (4 : Int32)]) (st := [.int (1 : Int32)]) (d1 := 0) (x1 := 0) (x2 := x) (by decide +kernel) ln_13_129 mf_L_draw_ rfl (by decide) np_L_draw_ rfl (Nat.le_of_ble_eq_true rfl) (by decide) (Nat.zero_add _).symm (tq_M_mono (am_L_draw_ h) ?_)
  refine tq_wi_e (fun r102 z101 h => ?_)
  refine tq_s_iadd (by decide +kernel) ?_
  refine tq_g_istore (i := 8) (fun v103 => [.ref 0, .ref 51, .null, .null, .null, .null, .null, .int s0, .int v103, .null, .null, .null, .null]) (by decide +kernel) (by decide) (fun _ => rfl) (fun v103 ev103 => ?_)
  replace h := h v103 ev103
  refine tq_k_ic (n := 1) (v := (1 : Int32)) (by decide +kernel) kc_1 ?_
  refine tq_s_aload_n (kk := 1) (by decide +kernel) rfl ?_
  refine tq_k_ic (n := 4) (v := (4 : Int32)) (by decide +kernel) kc_4 ?_
  refine tq_callS (as := [.ref 51, .int (4 : Int32)]) (st := [.int (1 : Int32)]) (d1 := 0) (x1 := 0) (x2 := x) (by decide +kernel) ln_13_129 mf_L_draw_ rfl (by decide) np_L_draw_ rfl (Nat.le_of_ble_eq_true rfl) (by decide) (Nat.zero_add _).symm (tq_M_mono (am_L_draw_ h) ?_)
  refine tq_wi_e (fun r105 z104 h => ?_)
  refine tq_s_iadd (by decide +kernel) ?_
  refine tq_g_istore (i := 9) (fun v106 => [.ref 0, .ref 51, .null, .null, .null, .null, .null, .int s0, .int v103, .int v106, .null, .null, .null]) (by decide +kernel) (by decide) (fun _ => rfl) (fun v106 ev106 => ?_)
  replace h := h v106 ev106
  refine tq_k_ic (n := 1) (v := (1 : Int32)) (by decide +kernel) kc_1 ?_
  refine tq_s_aload_n (kk := 1) (by decide +kernel) rfl ?_
  refine tq_k_ic (n := 4) (v := (4 : Int32)) (by decide +kernel) kc_4 ?_
  refine tq_callS (as := [.ref 51, .int (4 : Int32)]) (st := [.int (1 : Int32)]) (d1 := 0) (x1 := 0) (x2 := x) (by decide +kernel) ln_13_129 mf_L_draw_ rfl (by decide) np_L_draw_ rfl (Nat.le_of_ble_eq_true rfl) (by decide) (Nat.zero_add _).symm (tq_M_mono (am_L_draw_ h) ?_)
  refine tq_wi_e (fun r108 z107 h => ?_)
  refine tq_s_iadd (by decide +kernel) ?_
  refine tq_g_istore (i := 10) (fun v109 => [.ref 0, .ref 51, .null, .null, .null, .null, .null, .int s0, .int v103, .int v106, .int v109, .null, .null]) (by decide +kernel) (by decide) (fun _ => rfl) (fun v109 ev109 => ?_)
  replace h := h v109 ev109
  refine tq_s_aload_n (kk := 0) (by decide +kernel) rfl ?_
  refine tq_s_aload_n (kk := 0) (by decide +kernel) rfl ?_
  refine tq_s_iload (i := 8) (by decide +kernel) rfl ?_
  refine tq_s_iload (i := 9) (by decide +kernel) rfl ?_
  refine tq_s_iload (i := 10) (by decide +kernel) rfl ?_
  obtain ⟨y110, ey110, h⟩ := h
  refine tq_callSH (as := [.ref 0, .int v103, .int v106, .int v109]) (st := [.ref 0]) (d1 := 6) (x1 := 1) (x2 := y110) (by decide +kernel) ln_13_196 mf_L_hexagon rfl (by decide) np_L_hexagon rfl (Nat.le_of_ble_eq_true rfl) (by decide) (ey110.trans (Nat.add_comm _ _)) (tq_M_mono (am_L_hexagon (x := 0) h) ?_)
  refine tq_wi_e (fun r111 z112 h => ?_)
  obtain ⟨y113, ey113, h⟩ := h
  refine tq_callS (as := [.ref 0, .int r111]) (st := []) (d1 := 2) (x1 := 400) (x2 := y113) (by decide +kernel) ln_13_151 mf_L_told rfl (by decide) np_L_told rfl (Nat.le_of_ble_eq_true rfl) (by decide) (ey113.trans (Nat.add_comm _ _)) (tq_M_mono (am_L_told h) ?_)
  refine tq_wl_e (fun r114 z115 h => ?_)
  refine tq_s_lstore (i := 11) (L9 := [.ref 0, .ref 51, .null, .null, .null, .null, .null, .int s0, .int v103, .int v106, .int v109, .long r114, .null]) (by decide +kernel) (by decide) rfl ?_
  refine tq_s_iload (i := 7) (by decide +kernel) rfl ?_
  refine tq_if_eq (off := 67) (tgt := 243) (by decide +kernel) (by decide +kernel) (fun hc => ?_) (fun hc => ?_)
  · replace h := h.1 hc
    refine tq_k_ic (n := 0) (v := (0 : Int32)) (by decide +kernel) kc_0 ?_
    exact tq_ret_z (st := []) (ty := .boolean) (by decide +kernel) (by decide +kernel) rfl h
  · replace h := h.2 hc
    refine tq_s_lload (i := 11) (by decide +kernel) rfl ?_
    refine tq_s_aload_n (kk := 0) (by decide +kernel) rfl ?_
    refine tq_s_aload_n (kk := 0) (by decide +kernel) rfl ?_
    refine tq_s_iload (i := 8) (by decide +kernel) rfl ?_
    refine tq_s_iload (i := 9) (by decide +kernel) rfl ?_
    refine tq_s_iload (i := 10) (by decide +kernel) rfl ?_
    obtain ⟨y116, ey116, h⟩ := h
    refine tq_callSH (as := [.ref 0, .int v103, .int v106, .int v109]) (st := [.ref 0, .long r114]) (d1 := 4) (x1 := 1) (x2 := y116) (by decide +kernel) ln_13_199 mf_L_heaps rfl (by decide) np_L_heaps rfl (Nat.le_of_ble_eq_true rfl) (by decide) (ey116.trans (Nat.add_comm _ _)) (tq_M_mono (am_L_heaps (x := 0) h) ?_)
    refine tq_wi_e (fun r117 z118 h => ?_)
    obtain ⟨y119, ey119, h⟩ := h
    refine tq_callS (as := [.ref 0, .int r117]) (st := [.long r114]) (d1 := 2) (x1 := 400) (x2 := y119) (by decide +kernel) ln_13_151 mf_L_told rfl (by decide) np_L_told rfl (Nat.le_of_ble_eq_true rfl) (by decide) (ey119.trans (Nat.add_comm _ _)) (tq_M_mono (am_L_told h) ?_)
    refine tq_wl_e (fun r120 z121 h => ?_)
    refine tq_lcmp_ne (off := 47) (tgt := 243) (by decide +kernel) (by decide +kernel) (by decide +kernel) (fun hc => ?_) (fun hc => ?_)
    · replace h := h.1 hc
      refine tq_k_ic (n := 0) (v := (0 : Int32)) (by decide +kernel) kc_0 ?_
      exact tq_ret_z (st := []) (ty := .boolean) (by decide +kernel) (by decide +kernel) rfl h
    · replace h := h.2 hc
      refine tq_s_lload (i := 11) (by decide +kernel) rfl ?_
      refine tq_s_aload_n (kk := 0) (by decide +kernel) rfl ?_
      refine tq_s_aload_n (kk := 0) (by decide +kernel) rfl ?_
      refine tq_s_iload (i := 10) (by decide +kernel) rfl ?_
      refine tq_s_iload (i := 8) (by decide +kernel) rfl ?_
      refine tq_s_iload (i := 9) (by decide +kernel) rfl ?_
      obtain ⟨y122, ey122, h⟩ := h
      refine tq_callSH (as := [.ref 0, .int v109, .int v103, .int v106]) (st := [.ref 0, .long r114]) (d1 := 6) (x1 := 1) (x2 := y122) (by decide +kernel) ln_13_196 mf_L_hexagon rfl (by decide) np_L_hexagon rfl (Nat.le_of_ble_eq_true rfl) (by decide) (ey122.trans (Nat.add_comm _ _)) (tq_M_mono (am_L_hexagon (x := 0) h) ?_)
      refine tq_wi_e (fun r123 z124 h => ?_)
      obtain ⟨y125, ey125, h⟩ := h
      refine tq_callS (as := [.ref 0, .int r123]) (st := [.long r114]) (d1 := 2) (x1 := 400) (x2 := y125) (by decide +kernel) ln_13_151 mf_L_told rfl (by decide) np_L_told rfl (Nat.le_of_ble_eq_true rfl) (by decide) (ey125.trans (Nat.add_comm _ _)) (tq_M_mono (am_L_told h) ?_)
      refine tq_wl_e (fun r126 z127 h => ?_)
      refine tq_lcmp_ne (off := 27) (tgt := 243) (by decide +kernel) (by decide +kernel) (by decide +kernel) (fun hc => ?_) (fun hc => ?_)
      · replace h := h.1 hc
        refine tq_k_ic (n := 0) (v := (0 : Int32)) (by decide +kernel) kc_0 ?_
        exact tq_ret_z (st := []) (ty := .boolean) (by decide +kernel) (by decide +kernel) rfl h
      · replace h := h.2 hc
        refine tq_s_lload (i := 11) (by decide +kernel) rfl ?_
        refine tq_s_aload_n (kk := 0) (by decide +kernel) rfl ?_
        refine tq_s_aload_n (kk := 0) (by decide +kernel) rfl ?_
        refine tq_s_iload (i := 9) (by decide +kernel) rfl ?_
        refine tq_s_iload (i := 8) (by decide +kernel) rfl ?_
        refine tq_s_iload (i := 10) (by decide +kernel) rfl ?_
        obtain ⟨y128, ey128, h⟩ := h
        refine tq_callSH (as := [.ref 0, .int v106, .int v103, .int v109]) (st := [.ref 0, .long r114]) (d1 := 4) (x1 := 1) (x2 := y128) (by decide +kernel) ln_13_199 mf_L_heaps rfl (by decide) np_L_heaps rfl (Nat.le_of_ble_eq_true rfl) (by decide) (ey128.trans (Nat.add_comm _ _)) (tq_M_mono (am_L_heaps (x := 0) h) ?_)
        refine tq_wi_e (fun r129 z130 h => ?_)
        obtain ⟨y131, ey131, h⟩ := h
        refine tq_callS (as := [.ref 0, .int r129]) (st := [.long r114]) (d1 := 2) (x1 := 400) (x2 := y131) (by decide +kernel) ln_13_151 mf_L_told rfl (by decide) np_L_told rfl (Nat.le_of_ble_eq_true rfl) (by decide) (ey131.trans (Nat.add_comm _ _)) (tq_M_mono (am_L_told h) ?_)
        refine tq_wl_e (fun r132 z133 h => ?_)
        refine tq_lcmp_ne (off := 7) (tgt := 243) (by decide +kernel) (by decide +kernel) (by decide +kernel) (fun hc => ?_) (fun hc => ?_)
        · replace h := h.1 hc
          refine tq_k_ic (n := 0) (v := (0 : Int32)) (by decide +kernel) kc_0 ?_
          exact tq_ret_z (st := []) (ty := .boolean) (by decide +kernel) (by decide +kernel) rfl h
        · replace h := h.2 hc
          refine tq_k_ic (n := 1) (v := (1 : Int32)) (by decide +kernel) kc_1 ?_
          refine tq_s_goto (off := 4) (tgt := 244) (by decide +kernel) (by decide +kernel) ?_
          exact tq_ret_z (st := []) (ty := .boolean) (by decide +kernel) (by decide +kernel) rfl h
def wc_L_strips_128 (Q : tq_O → tq_S → Prop)  (x : Nat) (z : tq_S) : Prop := wc_L_strips_129 Q (0 : Int32) x z
theorem ac_L_strips_128 {K : Nat × (Nat → Int32)} {x : Nat} {Q : tq_O → tq_S → Prop}  {z : tq_S} (h : wc_L_strips_128 Q x z) : tq_T K 7 x mm_L_strips 128 [.ref 0, .ref 51, .null, .null, .null, .null, .null, .null, .null, .null, .null, .null, .null] [] z Q := by
  unfold wc_L_strips_128 at h
  refine tq_k_ic (n := 0) (v := (0 : Int32)) (by decide +kernel) kc_0 ?_
  exact ac_L_strips_129 h
def wc_L_strips_74 (Q : tq_O → tq_S → Prop) (a2 : Int32) (a3 : Int32) (a4 : Int32) (a5 : Int64) (x : Nat) (z : tq_S) : Prop := ((a3 < (1 : Int32) → wc_L_strips_128 Q x z) ∧ (¬ a3 < (1 : Int32) → ∃ y101 : Nat, x = y101 + 1 ∧ wm_L_strip a2 a4 z (tq_wi fun r102 z103 => ∃ y104 : Nat, y101 = y104 + 400 ∧ wm_L_told r102 z103 (tq_wl fun r105 z106 => ((¬ a5 = r105 → wc_L_strips_128 Q y104 z106) ∧ (a5 = r105 → ∃ y107 : Nat, y104 = y107 + 1 ∧ wm_L_rule a2 (a3 + (1 : Int32)) z106 (tq_wi fun r108 z109 => ((¬ r108 = (-900002 : Int32) → wc_L_strips_128 Q y107 z109) ∧ (r108 = (-900002 : Int32) → ∃ y110 : Nat, y107 = y110 + 1 ∧ wm_L_rule a2 a3 z109 (tq_wi fun r111 z112 => ∃ y113 : Nat, y110 = y113 + 400 ∧ wm_L_told r111 z112 (tq_wl fun r114 z115 => ((r114 = (0 : Int64) → wc_L_strips_128 Q y113 z115) ∧ (¬ r114 = (0 : Int64) → wc_L_strips_129 Q (1 : Int32) y113 z115)))))))))))))
theorem ac_L_strips_74 {K : Nat × (Nat → Int32)} {x : Nat} {Q : tq_O → tq_S → Prop} {a2 : Int32} {a3 : Int32} {a4 : Int32} {a5 : Int64} {z : tq_S} (h : wc_L_strips_74 Q a2 a3 a4 a5 x z) : tq_T K 7 x mm_L_strips 74 [.ref 0, .ref 51, .int a2, .int a3, .int a4, .long a5, .null, .null, .null, .null, .null, .null, .null] [] z Q := by
  unfold wc_L_strips_74 at h
  refine tq_s_iload_n (kk := 3) (by decide +kernel) rfl ?_
  refine tq_k_ic (n := 1) (v := (1 : Int32)) (by decide +kernel) kc_1 ?_
  refine tq_icmp_lt (off := 52) (tgt := 128) (by decide +kernel) (by decide +kernel) (fun hc => ?_) (fun hc => ?_)
  · replace h := h.1 hc
    exact tq_to (tq_lk1 (tq_lk1 (tq_ld1 (tq_ld1 (tq_ld1 (tq_ld1 (tq_lk1 (tq_lk1 (tq_lk1 (tq_lk1 (tq_lk1 (tq_lk1 (tq_lk1 tq_l0))))))))))))) (ac_L_strips_128 h)
  · replace h := h.2 hc
    refine tq_s_lload (i := 5) (by decide +kernel) rfl ?_
    refine tq_s_aload_n (kk := 0) (by decide +kernel) rfl ?_
    refine tq_s_aload_n (kk := 0) (by decide +kernel) rfl ?_
    refine tq_s_iload_n (kk := 2) (by decide +kernel) rfl ?_
    refine tq_s_iload (i := 4) (by decide +kernel) rfl ?_
    obtain ⟨y101, ey101, h⟩ := h
    refine tq_callSH (as := [.ref 0, .int a2, .int a4]) (st := [.ref 0, .long a5]) (d1 := 5) (x1 := 1) (x2 := y101) (by decide +kernel) ln_13_194 mf_L_strip rfl (by decide) np_L_strip rfl (Nat.le_of_ble_eq_true rfl) (by decide) (ey101.trans (Nat.add_comm _ _)) (tq_M_mono (am_L_strip (x := 0) h) ?_)
    refine tq_wi_e (fun r102 z103 h => ?_)
    obtain ⟨y104, ey104, h⟩ := h
    refine tq_callS (as := [.ref 0, .int r102]) (st := [.long a5]) (d1 := 2) (x1 := 400) (x2 := y104) (by decide +kernel) ln_13_151 mf_L_told rfl (by decide) np_L_told rfl (Nat.le_of_ble_eq_true rfl) (by decide) (ey104.trans (Nat.add_comm _ _)) (tq_M_mono (am_L_told h) ?_)
    refine tq_wl_e (fun r105 z106 h => ?_)
    refine tq_lcmp_ne (off := 35) (tgt := 128) (by decide +kernel) (by decide +kernel) (by decide +kernel) (fun hc => ?_) (fun hc => ?_)
    · replace h := h.1 hc
      exact tq_to (tq_lk1 (tq_lk1 (tq_ld1 (tq_ld1 (tq_ld1 (tq_ld1 (tq_lk1 (tq_lk1 (tq_lk1 (tq_lk1 (tq_lk1 (tq_lk1 (tq_lk1 tq_l0))))))))))))) (ac_L_strips_128 h)
    · replace h := h.2 hc
      refine tq_s_aload_n (kk := 0) (by decide +kernel) rfl ?_
      refine tq_s_iload_n (kk := 2) (by decide +kernel) rfl ?_
      refine tq_s_iload_n (kk := 3) (by decide +kernel) rfl ?_
      refine tq_k_ic (n := 1) (v := (1 : Int32)) (by decide +kernel) kc_1 ?_
      refine tq_s_iadd (by decide +kernel) ?_
      obtain ⟨y107, ey107, h⟩ := h
      refine tq_callSH (as := [.ref 0, .int a2, .int (a3 + (1 : Int32))]) (st := []) (d1 := 5) (x1 := 1) (x2 := y107) (by decide +kernel) ln_13_192 mf_L_rule rfl (by decide) np_L_rule rfl (Nat.le_of_ble_eq_true rfl) (by decide) (ey107.trans (Nat.add_comm _ _)) (tq_M_mono (am_L_rule (x := 0) h) ?_)
      refine tq_wi_e (fun r108 z109 h => ?_)
      refine tq_s_ldc (i := 77) (v := (-900002 : Int32)) (by decide +kernel) (by decide +kernel) ?_
      refine tq_icmp_ne (off := 22) (tgt := 128) (by decide +kernel) (by decide +kernel) (fun hc => ?_) (fun hc => ?_)
      · replace h := h.1 hc
        exact tq_to (tq_lk1 (tq_lk1 (tq_ld1 (tq_ld1 (tq_ld1 (tq_ld1 (tq_lk1 (tq_lk1 (tq_lk1 (tq_lk1 (tq_lk1 (tq_lk1 (tq_lk1 tq_l0))))))))))))) (ac_L_strips_128 h)
      · replace h := h.2 hc
        refine tq_s_aload_n (kk := 0) (by decide +kernel) rfl ?_
        refine tq_s_aload_n (kk := 0) (by decide +kernel) rfl ?_
        refine tq_s_iload_n (kk := 2) (by decide +kernel) rfl ?_
        refine tq_s_iload_n (kk := 3) (by decide +kernel) rfl ?_
        obtain ⟨y110, ey110, h⟩ := h
        refine tq_callSH (as := [.ref 0, .int a2, .int a3]) (st := [.ref 0]) (d1 := 5) (x1 := 1) (x2 := y110) (by decide +kernel) ln_13_192 mf_L_rule rfl (by decide) np_L_rule rfl (Nat.le_of_ble_eq_true rfl) (by decide) (ey110.trans (Nat.add_comm _ _)) (tq_M_mono (am_L_rule (x := 0) h) ?_)
        refine tq_wi_e (fun r111 z112 h => ?_)
        obtain ⟨y113, ey113, h⟩ := h
        refine tq_callS (as := [.ref 0, .int r111]) (st := []) (d1 := 2) (x1 := 400) (x2 := y113) (by decide +kernel) ln_13_151 mf_L_told rfl (by decide) np_L_told rfl (Nat.le_of_ble_eq_true rfl) (by decide) (ey113.trans (Nat.add_comm _ _)) (tq_M_mono (am_L_told h) ?_)
        refine tq_wl_e (fun r114 z115 h => ?_)
        refine tq_k_lc (n := 0) (v := (0 : Int64)) (by decide +kernel) (by decide +kernel) ?_
        refine tq_lcmp_eq (off := 7) (tgt := 128) (by decide +kernel) (by decide +kernel) (by decide +kernel) (fun hc => ?_) (fun hc => ?_)
        · replace h := h.1 hc
          exact tq_to (tq_lk1 (tq_lk1 (tq_ld1 (tq_ld1 (tq_ld1 (tq_ld1 (tq_lk1 (tq_lk1 (tq_lk1 (tq_lk1 (tq_lk1 (tq_lk1 (tq_lk1 tq_l0))))))))))))) (ac_L_strips_128 h)
        · replace h := h.2 hc
          refine tq_k_ic (n := 1) (v := (1 : Int32)) (by decide +kernel) kc_1 ?_
          refine tq_s_goto (off := 4) (tgt := 129) (by decide +kernel) (by decide +kernel) ?_
          exact tq_to (tq_lk1 (tq_lk1 (tq_ld1 (tq_ld1 (tq_ld1 (tq_ld1 (tq_lk1 (tq_lk1 (tq_lk1 (tq_lk1 (tq_lk1 (tq_lk1 (tq_lk1 tq_l0))))))))))))) (ac_L_strips_129 h)
def wb_L_strips_31 (B31 : Int64 → Int32 → Nat → tq_S → Prop) (Q : tq_O → tq_S → Prop) (a2 : Int32) (a3 : Int32) (a4 : Int32) (a5 : Int64) (a7 : Int32) (x : Nat) (z : tq_S) : Prop := ((a3 < a7 → wc_L_strips_74 Q a2 a3 a4 a5 x z) ∧ (¬ a3 < a7 → ∃ y101 : Nat, x = y101 + 1 ∧ wm_L_rule a2 a7 z (tq_wi fun r102 z103 => ∃ y104 : Nat, y101 = y104 + 400 ∧ wm_L_told r102 z103 (tq_wl fun r105 z106 => ∃ y107 : Nat, y104 = y107 + 1 ∧ wm_L_strip a2 (a4 - a7) z106 (tq_wi fun r108 z109 => ∃ y110 : Nat, y107 = y110 + 400 ∧ wm_L_told r108 z109 (tq_wl fun r111 z112 => ∀ v113 : Int64, v113 = (a5 + (r105 * r111)) → ∀ v114 : Int32, v114 = a7 + (1 : Int32) → B31 v113 v114 y110 z112))))))
def wc_L_strips_31 (Q : tq_O → tq_S → Prop) (a2 : Int32) (a3 : Int32) (a4 : Int32) (a5 : Int64) (a7 : Int32) (x : Nat) (z : tq_S) : Prop := tq_lp (σ := Int64 × Int32 × Nat × tq_S) (fun B s => wb_L_strips_31 (fun b5 b7 x z => B (b5, b7, x, z)) Q a2 a3 a4 s.1 s.2.1 s.2.2.1 s.2.2.2) (a5, a7, x, z)
theorem ab_L_strips_31 {K : Nat × (Nat → Int32)} {x : Nat} {Q : tq_O → tq_S → Prop} {B31 : Int64 → Int32 → Nat → tq_S → Prop} {a2 : Int32} {a3 : Int32} {a4 : Int32} {a5 : Int64} {a7 : Int32} {z : tq_S} (hB31 : ∀ (b5 : Int64) (b7 : Int32) (x : Nat) (z : tq_S), B31 b5 b7 x z → tq_T K 7 x mm_L_strips 31 [.ref 0, .ref 51, .int a2, .int a3, .int a4, .long b5, .null, .int b7, .null, .null, .null, .null, .null] [] z Q) (h : wb_L_strips_31 B31 Q a2 a3 a4 a5 a7 x z) : tq_T K 7 x mm_L_strips 31 [.ref 0, .ref 51, .int a2, .int a3, .int a4, .long a5, .null, .int a7, .null, .null, .null, .null, .null] [] z Q := by
  unfold wb_L_strips_31 at h
  refine tq_s_iload (i := 7) (by decide +kernel) rfl ?_
  refine tq_s_iload_n (kk := 3) (by decide +kernel) rfl ?_
  refine tq_icmp_gt (off := 40) (tgt := 74) (by decide +kernel) (by decide +kernel) (fun hc => ?_) (fun hc => ?_)
  · replace h := h.1 hc
    exact tq_to (tq_lk1 (tq_lk1 (tq_lk1 (tq_lk1 (tq_lk1 (tq_lk1 (tq_lk1 (tq_ld1 (tq_lk1 (tq_lk1 (tq_lk1 (tq_lk1 (tq_lk1 tq_l0))))))))))))) (ac_L_strips_74 h)
  · replace h := h.2 hc
    refine tq_s_lload (i := 5) (by decide +kernel) rfl ?_
    refine tq_s_aload_n (kk := 0) (by decide +kernel) rfl ?_
    refine tq_s_aload_n (kk := 0) (by decide +kernel) rfl ?_
    refine tq_s_iload_n (kk := 2) (by decide +kernel) rfl ?_
    refine tq_s_iload (i := 7) (by decide +kernel) rfl ?_
    obtain ⟨y101, ey101, h⟩ := h
    refine tq_callSH (as := [.ref 0, .int a2, .int a7]) (st := [.ref 0, .long a5]) (d1 := 5) (x1 := 1) (x2 := y101) (by decide +kernel) ln_13_192 mf_L_rule rfl (by decide) np_L_rule rfl (Nat.le_of_ble_eq_true rfl) (by decide) (ey101.trans (Nat.add_comm _ _)) (tq_M_mono (am_L_rule (x := 0) h) ?_)
    refine tq_wi_e (fun r102 z103 h => ?_)
    obtain ⟨y104, ey104, h⟩ := h
    refine tq_callS (as := [.ref 0, .int r102]) (st := [.long a5]) (d1 := 2) (x1 := 400) (x2 := y104) (by decide +kernel) ln_13_151 mf_L_told rfl (by decide) np_L_told rfl (Nat.le_of_ble_eq_true rfl) (by decide) (ey104.trans (Nat.add_comm _ _)) (tq_M_mono (am_L_told h) ?_)
    refine tq_wl_e (fun r105 z106 h => ?_)
    refine tq_s_aload_n (kk := 0) (by decide +kernel) rfl ?_
    refine tq_s_aload_n (kk := 0) (by decide +kernel) rfl ?_
    refine tq_s_iload_n (kk := 2) (by decide +kernel) rfl ?_
    refine tq_s_iload (i := 4) (by decide +kernel) rfl ?_
    refine tq_s_iload (i := 7) (by decide +kernel) rfl ?_
    refine tq_s_isub (by decide +kernel) ?_
    obtain ⟨y107, ey107, h⟩ := h
    refine tq_callSH (as := [.ref 0, .int a2, .int (a4 - a7)]) (st := [.ref 0, .long r105, .long a5]) (d1 := 5) (x1 := 1) (x2 := y107) (by decide +kernel) ln_13_194 mf_L_strip rfl (by decide) np_L_strip rfl (Nat.le_of_ble_eq_true rfl) (by decide) (ey107.trans (Nat.add_comm _ _)) (tq_M_mono (am_L_strip (x := 0) h) ?_)
    refine tq_wi_e (fun r108 z109 h => ?_)
    obtain ⟨y110, ey110, h⟩ := h
    refine tq_callS (as := [.ref 0, .int r108]) (st := [.long r105, .long a5]) (d1 := 2) (x1 := 400) (x2 := y110) (by decide +kernel) ln_13_151 mf_L_told rfl (by decide) np_L_told rfl (Nat.le_of_ble_eq_true rfl) (by decide) (ey110.trans (Nat.add_comm _ _)) (tq_M_mono (am_L_told h) ?_)
    refine tq_wl_e (fun r111 z112 h => ?_)
    refine tq_s_lmul (by decide +kernel) ?_
    refine tq_s_ladd (by decide +kernel) ?_
    refine tq_g_lstore (i := 5) (fun v113 => [.ref 0, .ref 51, .int a2, .int a3, .int a4, .long v113, .null, .int a7, .null, .null, .null, .null, .null]) (by decide +kernel) (by decide) (fun _ => rfl) (fun v113 ev113 => ?_)
    replace h := h v113 ev113
    refine tq_g_iinc (i := 7) (fun v114 => [.ref 0, .ref 51, .int a2, .int a3, .int a4, .long v113, .null, .int v114, .null, .null, .null, .null, .null]) (by decide +kernel) rfl (1 : Int32) kc_1 (fun _ => rfl) (fun v114 ev114 => ?_)
    replace h := h v114 ev114
    refine tq_s_goto (off := -40) (tgt := 31) (by decide +kernel) (by decide +kernel) ?_
    exact hB31 _ _ _ _ h
theorem ac_L_strips_31 {K : Nat × (Nat → Int32)} {x : Nat} {Q : tq_O → tq_S → Prop} {a2 : Int32} {a3 : Int32} {a4 : Int32} {a5 : Int64} {a7 : Int32} {z : tq_S} (h : wc_L_strips_31 Q a2 a3 a4 a5 a7 x z) : tq_T K 7 x mm_L_strips 31 [.ref 0, .ref 51, .int a2, .int a3, .int a4, .long a5, .null, .int a7, .null, .null, .null, .null, .null] [] z Q :=
  tq_lp_T (σ := Int64 × Int32 × Nat × tq_S) (s := (a5, a7, x, z)) (G := fun s => tq_T K 7 s.2.2.1  mm_L_strips 31 [.ref 0, .ref 51, .int a2, .int a3, .int a4, .long s.1, .null, .int s.2.1, .null, .null, .null, .null, .null] [] s.2.2.2 Q) (fun B hB s h => ab_L_strips_31 (fun b5 b7 x z h => hB (b5, b7, x, z) h) h) h
def wm_L_strips  (z : tq_S) (Q : tq_O → tq_S → Prop) : Prop := wm_L_draw_ (6 : Int32) z (tq_wi fun r2 z1 => ∀ v3 : Int32, v3 = ((1 : Int32) + r2) → ∃ y4 : Nat, 60000 = y4 + 1 ∧ wm_L_order v3 z1 (tq_wi fun r5 z6 => wm_L_draw_ (8 : Int32) z6 (tq_wi fun r8 z7 => ∀ v9 : Int32, v9 = (r5 + r8) → wc_L_strips_31 Q v3 r5 v9 (0 : Int64) (1 : Int32) y4 z7)))
theorem am_L_strips {K : Nat × (Nat → Int32)} {z : tq_S} {Q : tq_O → tq_S → Prop}  (h : wm_L_strips z Q) : tq_M K 7 60000 mm_L_strips [.ref 0, .ref 51] z Q := by
  unfold wm_L_strips at h
  refine tq_enter (L := [.ref 0, .ref 51, .null, .null, .null, .null, .null, .null, .null, .null, .null, .null, .null]) mf_L_strips.1 rfl rfl (Nat.le_of_ble_eq_true rfl) ?_
  refine tq_k_ic (n := 1) (v := (1 : Int32)) (by decide +kernel) kc_1 ?_
  refine tq_s_aload_n (kk := 1) (by decide +kernel) rfl ?_
  refine tq_k_bi (n := 6) (v := (6 : Int32)) (by decide +kernel) kb_6 ?_
  refine tq_callS (as := [.ref 51, .int (6 : Int32)]) (st := [.int (1 : Int32)]) (d1 := 0) (x1 := 0) (x2 := 60000) (by decide +kernel) ln_13_129 mf_L_draw_ rfl (by decide) np_L_draw_ rfl (Nat.le_of_ble_eq_true rfl) (by decide) (Nat.zero_add _).symm (tq_M_mono (am_L_draw_ h) ?_)
  refine tq_wi_e (fun r2 z1 h => ?_)
  refine tq_s_iadd (by decide +kernel) ?_
  refine tq_g_istore_n (kk := 2) (fun v3 => [.ref 0, .ref 51, .int v3, .null, .null, .null, .null, .null, .null, .null, .null, .null, .null]) (by decide +kernel) (by decide) (fun _ => rfl) (fun v3 ev3 => ?_)
  replace h := h v3 ev3
  refine tq_s_aload_n (kk := 0) (by decide +kernel) rfl ?_
  refine tq_s_iload_n (kk := 2) (by decide +kernel) rfl ?_
  obtain ⟨y4, ey4, h⟩ := h
  refine tq_callSH (as := [.ref 0, .int v3]) (st := []) (d1 := 2) (x1 := 1) (x2 := y4) (by decide +kernel) ln_13_190 mf_L_order rfl (by decide) np_L_order rfl (Nat.le_of_ble_eq_true rfl) (by decide) (ey4.trans (Nat.add_comm _ _)) (tq_M_mono (am_L_order (x := 0) h) ?_)
  refine tq_wi_e (fun r5 z6 h => ?_)
  refine tq_s_istore_n (kk := 3) (L9 := [.ref 0, .ref 51, .int v3, .int r5, .null, .null, .null, .null, .null, .null, .null, .null, .null]) (by decide +kernel) (by decide) rfl ?_
  refine tq_s_iload_n (kk := 3) (by decide +kernel) rfl ?_
  refine tq_s_aload_n (kk := 1) (by decide +kernel) rfl ?_
  refine tq_k_bi (n := 8) (v := (8 : Int32)) (by decide +kernel) kb_8 ?_
  refine tq_callS (as := [.ref 51, .int (8 : Int32)]) (st := [.int r5]) (d1 := 0) (x1 := 0) (x2 := y4) (by decide +kernel) ln_13_129 mf_L_draw_ rfl (by decide) np_L_draw_ rfl (Nat.le_of_ble_eq_true rfl) (by decide) (Nat.zero_add _).symm (tq_M_mono (am_L_draw_ h) ?_)
  refine tq_wi_e (fun r8 z7 h => ?_)
  refine tq_s_iadd (by decide +kernel) ?_
  refine tq_g_istore (i := 4) (fun v9 => [.ref 0, .ref 51, .int v3, .int r5, .int v9, .null, .null, .null, .null, .null, .null, .null, .null]) (by decide +kernel) (by decide) (fun _ => rfl) (fun v9 ev9 => ?_)
  replace h := h v9 ev9
  refine tq_k_lc (n := 0) (v := (0 : Int64)) (by decide +kernel) (by decide +kernel) ?_
  refine tq_s_lstore (i := 5) (L9 := [.ref 0, .ref 51, .int v3, .int r5, .int v9, .long (0 : Int64), .null, .null, .null, .null, .null, .null, .null]) (by decide +kernel) (by decide) rfl ?_
  refine tq_k_ic (n := 1) (v := (1 : Int32)) (by decide +kernel) kc_1 ?_
  refine tq_s_istore (i := 7) (L9 := [.ref 0, .ref 51, .int v3, .int r5, .int v9, .long (0 : Int64), .null, .int (1 : Int32), .null, .null, .null, .null, .null]) (by decide +kernel) (by decide) rfl ?_
  exact ac_L_strips_31 h
def wm_L_isSound  (z : tq_S) (Q : tq_O → tq_S → Prop) : Prop := wm_X11_isSound z (tq_wi fun r2 z1 => ((r2 = 0 → Q (.inl (some (.int (0 : Int32)))) z1) ∧ (¬ r2 = 0 → Q (.inl (some (.int (1 : Int32)))) z1)))
theorem am_L_isSound {K : Nat × (Nat → Int32)} {x : Nat} {z : tq_S} {Q : tq_O → tq_S → Prop}  (h : wm_L_isSound z Q) : tq_M K 92 x mm_L_isSound [.ref 0] z Q := by
  unfold wm_L_isSound at h
  refine tq_enter (L := [.ref 0]) mf_L_isSound.1 rfl rfl (Nat.le_of_ble_eq_true rfl) ?_
  refine tq_s_aload_n (kk := 0) (by decide +kernel) rfl ?_
  refine tq_callV (as := []) (st := []) (d1 := 91) (x1 := 0) (x2 := x) (by decide +kernel) ln_13_114 mf_X11_isSound rfl sh_0 rfl (by decide) np_X11_isSound rfl (Nat.le_of_ble_eq_true rfl) (by decide) (Nat.zero_add _).symm (tq_M_mono (am_X11_isSound h) ?_)
  refine tq_wi_e (fun r2 z1 h => ?_)
  refine tq_if_eq (off := 7) (tgt := 11) (by decide +kernel) (by decide +kernel) (fun hc => ?_) (fun hc => ?_)
  · replace h := h.1 hc
    refine tq_k_ic (n := 0) (v := (0 : Int32)) (by decide +kernel) kc_0 ?_
    exact tq_ret_i (st := []) (by decide +kernel) rfl h
  · replace h := h.2 hc
    refine tq_k_ic (n := 1) (v := (1 : Int32)) (by decide +kernel) kc_1 ?_
    refine tq_s_goto (off := 4) (tgt := 12) (by decide +kernel) (by decide +kernel) ?_
    exact tq_ret_i (st := []) (by decide +kernel) rfl h
