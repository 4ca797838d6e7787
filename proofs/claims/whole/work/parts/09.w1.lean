def wm_L_meanPart  (z : tq_S) (Q : tq_O → tq_S → Prop) : Prop := wm_X11_meanPart z (fun o z1 => tq_wd (fun r2 z1 => ∀ z3 : tq_S, z3 = tq_sad z1 88 (vf_upd (tq_ad z1 88) (Int32.toNatClampNeg (0 : Int32)) r2) → Q (.inl (some (.int (0 : Int32)))) z3) o z1 ∨ (o = .inr 0 ∧ Q (.inl (some (.int (1 : Int32)))) z1))
theorem am_L_meanPart {K : Nat × (Nat → Int32)} {x : Nat}  {z : tq_S} {Q : tq_O → tq_S → Prop} (h : wm_L_meanPart z Q) : tq_M K 5 (x + 1) mm_L_meanPart [.ref 0, .ref 88] z Q := by
  unfold wm_L_meanPart at h
  refine tq_enterH (L := [.ref 0, .ref 88, .null]) mf_L_meanPart.1 (by decide +kernel) rfl rfl (Nat.le_of_ble_eq_true rfl) ?_
  refine tq_s_aload_n (kk := 1) (by decide +kernel) rfl ?_
  refine tq_k_ic (n := 0) (v := (0 : Int32)) (by decide +kernel) kc_0 ?_
  refine tq_s_aload_n (kk := 0) (by decide +kernel) rfl ?_
  refine tq_callVX (as := []) (st := [.int (0 : Int32), .ref 88]) (d1 := 4) (x1 := 1) (x2 := x) (by decide +kernel) ln_13_143 mf_X11_meanPart rfl sh_0 rfl (by decide) np_X11_meanPart rfl (Nat.le_of_ble_eq_true rfl) (by decide) (Nat.add_comm _ _) (tq_M_mono (am_X11_meanPart h) ?_)
  intro o z1 h
  rcases h with h | ⟨rfl, h⟩
  · refine Or.inl (tq_wd_e (fun r2 z1 h => ?_) o z1 h)
    refine tq_g_dast (by decide +kernel) sh_88 vi_0_1 (fun z3 ez3 => ?_)
    replace h := h z3 ez3
    refine tq_s_goto (off := 6) (tgt := 13) (by decide +kernel) (by decide +kernel) ?_
    refine tq_k_ic (n := 0) (v := (0 : Int32)) (by decide +kernel) kc_0 ?_
    exact tq_ret_i (st := []) (by decide +kernel) rfl h
  · refine Or.inr ⟨0, "java/lang/ArithmeticException", 10, rfl, rfl, hx_L_meanPart_0, 2, by decide, Or.inl ⟨2, rfl, (by decide +kernel), ?_⟩⟩
    refine tq_k_ic (n := 1) (v := (1 : Int32)) (by decide +kernel) kc_1 ?_
    exact tq_ret_i (st := []) (by decide +kernel) rfl h
def wm_L_share (a1 : Int32) (a2 : Int32) (a3 : Int32) (z : tq_S) (Q : tq_O → tq_S → Prop) : Prop := wm_X11_share a1 a2 a3 z (fun o z1 => tq_wf (fun r2 z1 => vf_n64 (FP.f2d r2) ∧ ∀ z3 : tq_S, z3 = tq_sad z1 88 (vf_upd (tq_ad z1 88) (Int32.toNatClampNeg (0 : Int32)) (FP.f2d r2)) → Q (.inl (some (.int (0 : Int32)))) z3) o z1 ∨ (o = .inr 3 ∧ Q (.inl (some (.int (1 : Int32)))) z1) ∨ (o = .inr 0 ∧ Q (.inl (some (.int (2 : Int32)))) z1))
theorem am_L_share {K : Nat × (Nat → Int32)} {x : Nat} {a1 : Int32} {a2 : Int32} {a3 : Int32} {z : tq_S} {Q : tq_O → tq_S → Prop} (h : wm_L_share a1 a2 a3 z Q) : tq_M K 6 (x + 1) mm_L_share [.ref 0, .int a1, .int a2, .int a3, .ref 88] z Q := by
  unfold wm_L_share at h
  refine tq_enterH (L := [.ref 0, .int a1, .int a2, .int a3, .ref 88, .null]) mf_L_share.1 (by decide +kernel) rfl rfl (Nat.le_of_ble_eq_true rfl) ?_
  refine tq_s_aload (i := 4) (by decide +kernel) rfl ?_
  refine tq_k_ic (n := 0) (v := (0 : Int32)) (by decide +kernel) kc_0 ?_
  refine tq_s_aload_n (kk := 0) (by decide +kernel) rfl ?_
  refine tq_s_iload_n (kk := 1) (by decide +kernel) rfl ?_
  refine tq_s_iload_n (kk := 2) (by decide +kernel) rfl ?_
  refine tq_s_iload_n (kk := 3) (by decide +kernel) rfl ?_
  refine tq_callVX (as := [.int a1, .int a2, .int a3]) (st := [.int (0 : Int32), .ref 88]) (d1 := 5) (x1 := 1) (x2 := x) (by decide +kernel) ln_13_137 mf_X11_share rfl sh_0 rfl (by decide) np_X11_share rfl (Nat.le_of_ble_eq_true rfl) (by decide) (Nat.add_comm _ _) (tq_M_mono (am_X11_share h) ?_)
  intro o z1 h
  rcases h with h | ⟨rfl, h⟩ | ⟨rfl, h⟩
  · refine Or.inl (tq_wf_e (fun r2 z1 h => ?_) o z1 h)
    refine tq_s_f2d (by decide +kernel) h.1 ?_
    replace h := h.2
    refine tq_g_dast (by decide +kernel) sh_88 vi_0_1 (fun z3 ez3 => ?_)
    replace h := h z3 ez3
    refine tq_s_goto (off := 11) (tgt := 23) (by decide +kernel) (by decide +kernel) ?_
    refine tq_k_ic (n := 0) (v := (0 : Int32)) (by decide +kernel) kc_0 ?_
    exact tq_ret_i (st := []) (by decide +kernel) rfl h
  · refine Or.inr ⟨3, "java/lang/IndexOutOfBoundsException", 15, rfl, rfl, hx_L_share_0, 5, by decide, Or.inr ⟨(by decide +kernel), ?_⟩⟩
    refine tq_k_ic (n := 1) (v := (1 : Int32)) (by decide +kernel) kc_1 ?_
    exact tq_ret_i (st := []) (by decide +kernel) rfl h
  · refine Or.inr ⟨0, "java/lang/ArithmeticException", 19, rfl, rfl, hx_L_share_1, 5, by decide, Or.inr ⟨(by decide +kernel), ?_⟩⟩
    refine tq_k_ic (n := 2) (v := (2 : Int32)) (by decide +kernel) kc_2 ?_
    exact tq_ret_i (st := []) (by decide +kernel) rfl h
def wm_L_loops  (z : tq_S) (Q : tq_O → tq_S → Prop) : Prop := wm_X11_loops z (fun o z1 => tq_wi (fun r2 z1 => ∀ z3 : tq_S, z3 = tq_sal z1 87 (vp_updL (tq_al z1 87) (Int32.toNatClampNeg (0 : Int32)) (Int32.toInt64 r2)) → Q (.inl (some (.int (0 : Int32)))) z3) o z1 ∨ (o = .inr 4 ∧ Q (.inl (some (.int (1 : Int32)))) z1))
theorem am_L_loops {K : Nat × (Nat → Int32)} {x : Nat}  {z : tq_S} {Q : tq_O → tq_S → Prop} (h : wm_L_loops z Q) : tq_M K 5 (x + 1) mm_L_loops [.ref 0, .ref 87] z Q := by
  unfold wm_L_loops at h
  refine tq_enterH (L := [.ref 0, .ref 87, .null]) mf_L_loops.1 (by decide +kernel) rfl rfl (Nat.le_of_ble_eq_true rfl) ?_
  refine tq_s_aload_n (kk := 1) (by decide +kernel) rfl ?_
  refine tq_k_ic (n := 0) (v := (0 : Int32)) (by decide +kernel) kc_0 ?_
  refine tq_s_aload_n (kk := 0) (by decide +kernel) rfl ?_
  refine tq_callVX (as := []) (st := [.int (0 : Int32), .ref 87]) (d1 := 4) (x1 := 1) (x2 := x) (by decide +kernel) ln_13_134 mf_X11_loops rfl sh_0 rfl (by decide) np_X11_loops rfl (Nat.le_of_ble_eq_true rfl) (by decide) (Nat.add_comm _ _) (tq_M_mono (am_X11_loops h) ?_)
  intro o z1 h
  rcases h with h | ⟨rfl, h⟩
  · refine Or.inl (tq_wi_e (fun r2 z1 h => ?_) o z1 h)
    refine tq_s_i2l (by decide +kernel) ?_
    refine tq_g_last (by decide +kernel) sh_87 vi_0_1 (fun z3 ez3 => ?_)
    replace h := h z3 ez3
    refine tq_s_goto (off := 6) (tgt := 14) (by decide +kernel) (by decide +kernel) ?_
    refine tq_k_ic (n := 0) (v := (0 : Int32)) (by decide +kernel) kc_0 ?_
    exact tq_ret_i (st := []) (by decide +kernel) rfl h
  · refine Or.inr ⟨4, "java/lang/UnsupportedOperationException", 11, rfl, rfl, hx_L_loops_0, 2, by decide, Or.inl ⟨2, rfl, (by decide +kernel), ?_⟩⟩
    refine tq_k_ic (n := 1) (v := (1 : Int32)) (by decide +kernel) kc_1 ?_
    exact tq_ret_i (st := []) (by decide +kernel) rfl h
def wm_L_rooks (a1 : Int32) (z : tq_S) (Q : tq_O → tq_S → Prop) : Prop := wm_X11_rooks a1 z (fun o z1 => tq_wi (fun r2 z1 => ∀ z3 : tq_S, z3 = tq_sal z1 87 (vp_updL (tq_al z1 87) (Int32.toNatClampNeg (0 : Int32)) (Int32.toInt64 r2)) → Q (.inl (some (.int (0 : Int32)))) z3) o z1 ∨ (o = .inr 1 ∧ Q (.inl (some (.int (1 : Int32)))) z1))
theorem am_L_rooks {K : Nat × (Nat → Int32)} {x : Nat} {a1 : Int32} {z : tq_S} {Q : tq_O → tq_S → Prop} (h : wm_L_rooks a1 z Q) : tq_M K 5 (x + 1) mm_L_rooks [.ref 0, .int a1, .ref 87] z Q := by
  unfold wm_L_rooks at h
  refine tq_enterH (L := [.ref 0, .int a1, .ref 87, .null]) mf_L_rooks.1 (by decide +kernel) rfl rfl (Nat.le_of_ble_eq_true rfl) ?_
  refine tq_s_aload_n (kk := 2) (by decide +kernel) rfl ?_
  refine tq_k_ic (n := 0) (v := (0 : Int32)) (by decide +kernel) kc_0 ?_
  refine tq_s_aload_n (kk := 0) (by decide +kernel) rfl ?_
  refine tq_s_iload_n (kk := 1) (by decide +kernel) rfl ?_
  refine tq_callVX (as := [.int a1]) (st := [.int (0 : Int32), .ref 87]) (d1 := 4) (x1 := 1) (x2 := x) (by decide +kernel) ln_13_131 mf_X11_rooks rfl sh_0 rfl (by decide) np_X11_rooks rfl (Nat.le_of_ble_eq_true rfl) (by decide) (Nat.add_comm _ _) (tq_M_mono (am_X11_rooks h) ?_)
  intro o z1 h
  rcases h with h | ⟨rfl, h⟩
  · refine Or.inl (tq_wi_e (fun r2 z1 h => ?_) o z1 h)
    refine tq_s_i2l (by decide +kernel) ?_
    refine tq_g_last (by decide +kernel) sh_87 vi_0_1 (fun z3 ez3 => ?_)
    replace h := h z3 ez3
    refine tq_s_goto (off := 6) (tgt := 15) (by decide +kernel) (by decide +kernel) ?_
    refine tq_k_ic (n := 0) (v := (0 : Int32)) (by decide +kernel) kc_0 ?_
    exact tq_ret_i (st := []) (by decide +kernel) rfl h
  · refine Or.inr ⟨1, "java/lang/IllegalArgumentException", 12, rfl, rfl, hx_L_rooks_0, 3, by decide, Or.inl ⟨3, rfl, (by decide +kernel), ?_⟩⟩
    refine tq_k_ic (n := 1) (v := (1 : Int32)) (by decide +kernel) kc_1 ?_
    exact tq_ret_i (st := []) (by decide +kernel) rfl h
def wm_L_heaps (a1 : Int32) (a2 : Int32) (a3 : Int32) (z : tq_S) (Q : tq_O → tq_S → Prop) : Prop := wm_X11_heaps a1 a2 a3 z (fun o z1 => tq_wi (fun r2 z1 => ∀ z3 : tq_S, z3 = tq_sal z1 87 (vp_updL (tq_al z1 87) (Int32.toNatClampNeg (0 : Int32)) (Int32.toInt64 r2)) → Q (.inl (some (.int (0 : Int32)))) z3) o z1 ∨ (o = .inr 1 ∧ Q (.inl (some (.int (1 : Int32)))) z1))
theorem am_L_heaps {K : Nat × (Nat → Int32)} {x : Nat} {a1 : Int32} {a2 : Int32} {a3 : Int32} {z : tq_S} {Q : tq_O → tq_S → Prop} (h : wm_L_heaps a1 a2 a3 z Q) : tq_M K 4 (x + 1) mm_L_heaps [.ref 0, .int a1, .int a2, .int a3, .ref 87] z Q := by
  unfold wm_L_heaps at h
  refine tq_enterH (L := [.ref 0, .int a1, .int a2, .int a3, .ref 87, .null]) mf_L_heaps.1 (by decide +kernel) rfl rfl (Nat.le_of_ble_eq_true rfl) ?_
  refine tq_s_aload (i := 4) (by decide +kernel) rfl ?_
  refine tq_k_ic (n := 0) (v := (0 : Int32)) (by decide +kernel) kc_0 ?_
  refine tq_s_aload_n (kk := 0) (by decide +kernel) rfl ?_
  refine tq_s_iload_n (kk := 1) (by decide +kernel) rfl ?_
  refine tq_s_iload_n (kk := 2) (by decide +kernel) rfl ?_
  refine tq_s_iload_n (kk := 3) (by decide +kernel) rfl ?_
  refine tq_callVX (as := [.int a1, .int a2, .int a3]) (st := [.int (0 : Int32), .ref 87]) (d1 := 3) (x1 := 1) (x2 := x) (by decide +kernel) ln_13_128 mf_X11_heaps rfl sh_0 rfl (by decide) np_X11_heaps rfl (Nat.le_of_ble_eq_true rfl) (by decide) (Nat.add_comm _ _) (tq_M_mono (am_X11_heaps h) ?_)
  intro o z1 h
  rcases h with h | ⟨rfl, h⟩
  · refine Or.inl (tq_wi_e (fun r2 z1 h => ?_) o z1 h)
    refine tq_s_i2l (by decide +kernel) ?_
    refine tq_g_last (by decide +kernel) sh_87 vi_0_1 (fun z3 ez3 => ?_)
    replace h := h z3 ez3
    refine tq_s_goto (off := 7) (tgt := 19) (by decide +kernel) (by decide +kernel) ?_
    refine tq_k_ic (n := 0) (v := (0 : Int32)) (by decide +kernel) kc_0 ?_
    exact tq_ret_i (st := []) (by decide +kernel) rfl h
  · refine Or.inr ⟨1, "java/lang/IllegalArgumentException", 15, rfl, rfl, hx_L_heaps_0, 5, by decide, Or.inr ⟨(by decide +kernel), ?_⟩⟩
    refine tq_k_ic (n := 1) (v := (1 : Int32)) (by decide +kernel) kc_1 ?_
    exact tq_ret_i (st := []) (by decide +kernel) rfl h
def wm_L_hexagon (a1 : Int32) (a2 : Int32) (a3 : Int32) (z : tq_S) (Q : tq_O → tq_S → Prop) : Prop := wm_X11_hexagon a1 a2 a3 z (fun o z1 => tq_wi (fun r2 z1 => ∀ z3 : tq_S, z3 = tq_sal z1 87 (vp_updL (tq_al z1 87) (Int32.toNatClampNeg (0 : Int32)) (Int32.toInt64 r2)) → Q (.inl (some (.int (0 : Int32)))) z3) o z1 ∨ (o = .inr 1 ∧ Q (.inl (some (.int (1 : Int32)))) z1))
theorem am_L_hexagon {K : Nat × (Nat → Int32)} {x : Nat} {a1 : Int32} {a2 : Int32} {a3 : Int32} {z : tq_S} {Q : tq_O → tq_S → Prop} (h : wm_L_hexagon a1 a2 a3 z Q) : tq_M K 6 (x + 1) mm_L_hexagon [.ref 0, .int a1, .int a2, .int a3, .ref 87] z Q := by
  unfold wm_L_hexagon at h
  refine tq_enterH (L := [.ref 0, .int a1, .int a2, .int a3, .ref 87, .null]) mf_L_hexagon.1 (by decide +kernel) rfl rfl (Nat.le_of_ble_eq_true rfl) ?_
  refine tq_s_aload (i := 4) (by decide +kernel) rfl ?_
  refine tq_k_ic (n := 0) (v := (0 : Int32)) (by decide +kernel) kc_0 ?_
  refine tq_s_aload_n (kk := 0) (by decide +kernel) rfl ?_
  refine tq_s_iload_n (kk := 1) (by decide +kernel) rfl ?_
  refine tq_s_iload_n (kk := 2) (by decide +kernel) rfl ?_
  refine tq_s_iload_n (kk := 3) (by decide +kernel) rfl ?_
  refine tq_callVX (as := [.int a1, .int a2, .int a3]) (st := [.int (0 : Int32), .ref 87]) (d1 := 5) (x1 := 1) (x2 := x) (by decide +kernel) ln_13_125 mf_X11_hexagon rfl sh_0 rfl (by decide) np_X11_hexagon rfl (Nat.le_of_ble_eq_true rfl) (by decide) (Nat.add_comm _ _) (tq_M_mono (am_X11_hexagon h) ?_)
  intro o z1 h
  rcases h with h | ⟨rfl, h⟩
  · refine Or.inl (tq_wi_e (fun r2 z1 h => ?_) o z1 h)
    refine tq_s_i2l (by decide +kernel) ?_
    refine tq_g_last (by decide +kernel) sh_87 vi_0_1 (fun z3 ez3 => ?_)
    replace h := h z3 ez3
    refine tq_s_goto (off := 7) (tgt := 19) (by decide +kernel) (by decide +kernel) ?_
    refine tq_k_ic (n := 0) (v := (0 : Int32)) (by decide +kernel) kc_0 ?_
    exact tq_ret_i (st := []) (by decide +kernel) rfl h
  · refine Or.inr ⟨1, "java/lang/IllegalArgumentException", 15, rfl, rfl, hx_L_hexagon_0, 5, by decide, Or.inr ⟨(by decide +kernel), ?_⟩⟩
    refine tq_k_ic (n := 1) (v := (1 : Int32)) (by decide +kernel) kc_1 ?_
    exact tq_ret_i (st := []) (by decide +kernel) rfl h
def wm_L_rule (a1 : Int32) (a2 : Int32) (z : tq_S) (Q : tq_O → tq_S → Prop) : Prop := wm_X11_rule a1 a2 z (fun o z1 => tq_wi (fun r2 z1 => ∀ z3 : tq_S, z3 = tq_sal z1 87 (vp_updL (tq_al z1 87) (Int32.toNatClampNeg (0 : Int32)) (Int32.toInt64 r2)) → Q (.inl (some (.int (0 : Int32)))) z3) o z1 ∨ (o = .inr 1 ∧ Q (.inl (some (.int (1 : Int32)))) z1) ∨ (o = .inr 3 ∧ Q (.inl (some (.int (2 : Int32)))) z1))
theorem am_L_rule {K : Nat × (Nat → Int32)} {x : Nat} {a1 : Int32} {a2 : Int32} {z : tq_S} {Q : tq_O → tq_S → Prop} (h : wm_L_rule a1 a2 z Q) : tq_M K 5 (x + 1) mm_L_rule [.ref 0, .int a1, .int a2, .ref 87] z Q := by
  unfold wm_L_rule at h
  refine tq_enterH (L := [.ref 0, .int a1, .int a2, .ref 87, .null]) mf_L_rule.1 (by decide +kernel) rfl rfl (Nat.le_of_ble_eq_true rfl) ?_
  refine tq_s_aload_n (kk := 3) (by decide +kernel) rfl ?_
  refine tq_k_ic (n := 0) (v := (0 : Int32)) (by decide +kernel) kc_0 ?_
  refine tq_s_aload_n (kk := 0) (by decide +kernel) rfl ?_
  refine tq_s_iload_n (kk := 1) (by decide +kernel) rfl ?_
  refine tq_s_iload_n (kk := 2) (by decide +kernel) rfl ?_
  refine tq_callVX (as := [.int a1, .int a2]) (st := [.int (0 : Int32), .ref 87]) (d1 := 4) (x1 := 1) (x2 := x) (by decide +kernel) ln_13_122 mf_X11_rule rfl sh_0 rfl (by decide) np_X11_rule rfl (Nat.le_of_ble_eq_true rfl) (by decide) (Nat.add_comm _ _) (tq_M_mono (am_X11_rule h) ?_)
  intro o z1 h
  rcases h with h | ⟨rfl, h⟩ | ⟨rfl, h⟩
  · refine Or.inl (tq_wi_e (fun r2 z1 h => ?_) o z1 h)
    refine tq_s_i2l (by decide +kernel) ?_
    refine tq_g_last (by decide +kernel) sh_87 vi_0_1 (fun z3 ez3 => ?_)
    replace h := h z3 ez3
    refine tq_s_goto (off := 11) (tgt := 21) (by decide +kernel) (by decide +kernel) ?_
    refine tq_k_ic (n := 0) (v := (0 : Int32)) (by decide +kernel) kc_0 ?_
    exact tq_ret_i (st := []) (by decide +kernel) rfl h
  · refine Or.inr ⟨1, "java/lang/IllegalArgumentException", 13, rfl, rfl, hx_L_rule_0, 4, by decide, Or.inr ⟨(by decide +kernel), ?_⟩⟩
    refine tq_k_ic (n := 1) (v := (1 : Int32)) (by decide +kernel) kc_1 ?_
    exact tq_ret_i (st := []) (by decide +kernel) rfl h
  · refine Or.inr ⟨3, "java/lang/IndexOutOfBoundsException", 17, rfl, rfl, hx_L_rule_1, 4, by decide, Or.inr ⟨(by decide +kernel), ?_⟩⟩
    refine tq_k_ic (n := 2) (v := (2 : Int32)) (by decide +kernel) kc_2 ?_
    exact tq_ret_i (st := []) (by decide +kernel) rfl h
def wm_L_order (a1 : Int32) (z : tq_S) (Q : tq_O → tq_S → Prop) : Prop := wm_X11_order a1 z (fun o z1 => tq_wi (fun r2 z1 => ∀ z3 : tq_S, z3 = tq_sal z1 87 (vp_updL (tq_al z1 87) (Int32.toNatClampNeg (0 : Int32)) (Int32.toInt64 r2)) → Q (.inl (some (.int (0 : Int32)))) z3) o z1 ∨ (o = .inr 1 ∧ Q (.inl (some (.int (1 : Int32)))) z1))
theorem am_L_order {K : Nat × (Nat → Int32)} {x : Nat} {a1 : Int32} {z : tq_S} {Q : tq_O → tq_S → Prop} (h : wm_L_order a1 z Q) : tq_M K 2 (x + 1) mm_L_order [.ref 0, .int a1, .ref 87] z Q := by
  unfold wm_L_order at h
  refine tq_enterH (L := [.ref 0, .int a1, .ref 87, .null]) mf_L_order.1 (by decide +kernel) rfl rfl (Nat.le_of_ble_eq_true rfl) ?_
  refine tq_s_aload_n (kk := 2) (by decide +kernel) rfl ?_
  refine tq_k_ic (n := 0) (v := (0 : Int32)) (by decide +kernel) kc_0 ?_
  refine tq_s_aload_n (kk := 0) (by decide +kernel) rfl ?_
  refine tq_s_iload_n (kk := 1) (by decide +kernel) rfl ?_
  refine tq_callVX (as := [.int a1]) (st := [.int (0 : Int32), .ref 87]) (d1 := 1) (x1 := 1) (x2 := x) (by decide +kernel) ln_13_119 mf_X11_order rfl sh_0 rfl (by decide) np_X11_order rfl (Nat.le_of_ble_eq_true rfl) (by decide) (Nat.add_comm _ _) (tq_M_mono (am_X11_order h) ?_)
  intro o z1 h
  rcases h with h | ⟨rfl, h⟩
  · refine Or.inl (tq_wi_e (fun r2 z1 h => ?_) o z1 h)
    refine tq_s_i2l (by decide +kernel) ?_
    refine tq_g_last (by decide +kernel) sh_87 vi_0_1 (fun z3 ez3 => ?_)
    replace h := h z3 ez3
    refine tq_s_goto (off := 6) (tgt := 15) (by decide +kernel) (by decide +kernel) ?_
    refine tq_k_ic (n := 0) (v := (0 : Int32)) (by decide +kernel) kc_0 ?_
    exact tq_ret_i (st := []) (by decide +kernel) rfl h
  · refine Or.inr ⟨1, "java/lang/IllegalArgumentException", 12, rfl, rfl, hx_L_order_0, 3, by decide, Or.inl ⟨3, rfl, (by decide +kernel), ?_⟩⟩
    refine tq_k_ic (n := 1) (v := (1 : Int32)) (by decide +kernel) kc_1 ?_
    exact tq_ret_i (st := []) (by decide +kernel) rfl h
def wm_L_strip (a1 : Int32) (a2 : Int32) (z : tq_S) (Q : tq_O → tq_S → Prop) : Prop := wm_X11_strip a1 a2 z (fun o z1 => tq_wi (fun r2 z1 => ∀ z3 : tq_S, z3 = tq_sal z1 87 (vp_updL (tq_al z1 87) (Int32.toNatClampNeg (0 : Int32)) (Int32.toInt64 r2)) → Q (.inl (some (.int (0 : Int32)))) z3) o z1 ∨ (o = .inr 1 ∧ Q (.inl (some (.int (1 : Int32)))) z1))
theorem am_L_strip {K : Nat × (Nat → Int32)} {x : Nat} {a1 : Int32} {a2 : Int32} {z : tq_S} {Q : tq_O → tq_S → Prop} (h : wm_L_strip a1 a2 z Q) : tq_M K 5 (x + 1) mm_L_strip [.ref 0, .int a1, .int a2, .ref 87] z Q := by
  unfold wm_L_strip at h
  refine tq_enterH (L := [.ref 0, .int a1, .int a2, .ref 87, .null]) mf_L_strip.1 (by decide +kernel) rfl rfl (Nat.le_of_ble_eq_true rfl) ?_
  refine tq_s_aload_n (kk := 3) (by decide +kernel) rfl ?_
  refine tq_k_ic (n := 0) (v := (0 : Int32)) (by decide +kernel) kc_0 ?_
  refine tq_s_aload_n (kk := 0) (by decide +kernel) rfl ?_
  refine tq_s_iload_n (kk := 1) (by decide +kernel) rfl ?_
  refine tq_s_iload_n (kk := 2) (by decide +kernel) rfl ?_
  refine tq_callVX (as := [.int a1, .int a2]) (st := [.int (0 : Int32), .ref 87]) (d1 := 4) (x1 := 1) (x2 := x) (by decide +kernel) ln_13_116 mf_X11_strip rfl sh_0 rfl (by decide) np_X11_strip rfl (Nat.le_of_ble_eq_true rfl) (by decide) (Nat.add_comm _ _) (tq_M_mono (am_X11_strip h) ?_)
  intro o z1 h
  rcases h with h | ⟨rfl, h⟩
  · refine Or.inl (tq_wi_e (fun r2 z1 h => ?_) o z1 h)
    refine tq_s_i2l (by decide +kernel) ?_
    refine tq_g_last (by decide +kernel) sh_87 vi_0_1 (fun z3 ez3 => ?_)
    replace h := h z3 ez3
    refine tq_s_goto (off := 7) (tgt := 17) (by decide +kernel) (by decide +kernel) ?_
    refine tq_k_ic (n := 0) (v := (0 : Int32)) (by decide +kernel) kc_0 ?_
    exact tq_ret_i (st := []) (by decide +kernel) rfl h
  · refine Or.inr ⟨1, "java/lang/IllegalArgumentException", 13, rfl, rfl, hx_L_strip_0, 4, by decide, Or.inr ⟨(by decide +kernel), ?_⟩⟩
    refine tq_k_ic (n := 1) (v := (1 : Int32)) (by decide +kernel) kc_1 ?_
    exact tq_ret_i (st := []) (by decide +kernel) rfl h
def wm_L_kindAt (a1 : Int32) (a2 : Int32) (a3 : Int32) (z : tq_S) (Q : tq_O → tq_S → Prop) : Prop := wm_X11_kindAt a1 a2 a3 z (fun o z1 => tq_wi (fun r2 z1 => ∀ z3 : tq_S, z3 = tq_sal z1 87 (vp_updL (tq_al z1 87) (Int32.toNatClampNeg (0 : Int32)) (Int32.toInt64 r2)) → Q (.inl (some (.int (0 : Int32)))) z3) o z1 ∨ (o = .inr 4 ∧ Q (.inl (some (.int (1 : Int32)))) z1) ∨ (o = .inr 5 ∧ Q (.inl (some (.int (2 : Int32)))) z1) ∨ (o = .inr 3 ∧ Q (.inl (some (.int (3 : Int32)))) z1))
theorem am_L_kindAt {K : Nat × (Nat → Int32)} {x : Nat} {a1 : Int32} {a2 : Int32} {a3 : Int32} {z : tq_S} {Q : tq_O → tq_S → Prop} (h : wm_L_kindAt a1 a2 a3 z Q) : tq_M K 91 (x + 1) mm_L_kindAt [.ref 0, .int a1, .int a2, .int a3, .ref 87] z Q := by
  unfold wm_L_kindAt at h
  refine tq_enterH (L := [.ref 0, .int a1, .int a2, .int a3, .ref 87, .null]) mf_L_kindAt.1 (by decide +kernel) rfl rfl (Nat.le_of_ble_eq_true rfl) ?_
  refine tq_s_aload (i := 4) (by decide +kernel) rfl ?_
  refine tq_k_ic (n := 0) (v := (0 : Int32)) (by decide +kernel) kc_0 ?_
  refine tq_s_aload_n (kk := 0) (by decide +kernel) rfl ?_
  refine tq_s_iload_n (kk := 1) (by decide +kernel) rfl ?_
  refine tq_s_iload_n (kk := 2) (by decide +kernel) rfl ?_
  refine tq_s_iload_n (kk := 3) (by decide +kernel) rfl ?_
  refine tq_callVX (as := [.int a1, .int a2, .int a3]) (st := [.int (0 : Int32), .ref 87]) (d1 := 90) (x1 := 1) (x2 := x) (by decide +kernel) ln_13_112 mf_X11_kindAt rfl sh_0 rfl (by decide) np_X11_kindAt rfl (Nat.le_of_ble_eq_true rfl) (by decide) (Nat.add_comm _ _) (tq_M_mono (am_X11_kindAt h) ?_)
  intro o z1 h
  rcases h with h | ⟨rfl, h⟩ | ⟨rfl, h⟩ | ⟨rfl, h⟩
  · refine Or.inl (tq_wi_e (fun r2 z1 h => ?_) o z1 h)
    refine tq_s_i2l (by decide +kernel) ?_
    refine tq_g_last (by decide +kernel) sh_87 vi_0_1 (fun z3 ez3 => ?_)
    replace h := h z3 ez3
    refine tq_s_goto (off := 15) (tgt := 27) (by decide +kernel) (by decide +kernel) ?_
    refine tq_k_ic (n := 0) (v := (0 : Int32)) (by decide +kernel) kc_0 ?_
    exact tq_ret_i (st := []) (by decide +kernel) rfl h
  · refine Or.inr ⟨4, "java/lang/UnsupportedOperationException", 15, rfl, rfl, hx_L_kindAt_0, 5, by decide, Or.inr ⟨(by decide +kernel), ?_⟩⟩
    refine tq_k_ic (n := 1) (v := (1 : Int32)) (by decide +kernel) kc_1 ?_
    exact tq_ret_i (st := []) (by decide +kernel) rfl h
  · refine Or.inr ⟨5, "java/util/NoSuchElementException", 19, rfl, rfl, hx_L_kindAt_1, 5, by decide, Or.inr ⟨(by decide +kernel), ?_⟩⟩
    refine tq_k_ic (n := 2) (v := (2 : Int32)) (by decide +kernel) kc_2 ?_
    exact tq_ret_i (st := []) (by decide +kernel) rfl h
  · refine Or.inr ⟨3, "java/lang/IndexOutOfBoundsException", 23, rfl, rfl, hx_L_kindAt_2, 5, by decide, Or.inr ⟨(by decide +kernel), ?_⟩⟩
    refine tq_k_ic (n := 3) (v := (3 : Int32)) (by decide +kernel) kc_3 ?_
    exact tq_ret_i (st := []) (by decide +kernel) rfl h
def wm_L_unlike  (z : tq_S) (Q : tq_O → tq_S → Prop) : Prop := wm_X11_unlike z (fun o z1 => tq_wi (fun r2 z1 => ∀ z3 : tq_S, z3 = tq_sal z1 87 (vp_updL (tq_al z1 87) (Int32.toNatClampNeg (0 : Int32)) (Int32.toInt64 r2)) → Q (.inl (some (.int (0 : Int32)))) z3) o z1 ∨ (o = .inr 4 ∧ Q (.inl (some (.int (1 : Int32)))) z1))
theorem am_L_unlike {K : Nat × (Nat → Int32)} {x : Nat}  {z : tq_S} {Q : tq_O → tq_S → Prop} (h : wm_L_unlike z Q) : tq_M K 92 (x + 1) mm_L_unlike [.ref 0, .ref 87] z Q := by
  unfold wm_L_unlike at h
  refine tq_enterH (L := [.ref 0, .ref 87, .null]) mf_L_unlike.1 (by decide +kernel) rfl rfl (Nat.le_of_ble_eq_true rfl) ?_
  refine tq_s_aload_n (kk := 1) (by decide +kernel) rfl ?_
  refine tq_k_ic (n := 0) (v := (0 : Int32)) (by decide +kernel) kc_0 ?_
  refine tq_s_aload_n (kk := 0) (by decide +kernel) rfl ?_
  refine tq_callVX (as := []) (st := [.int (0 : Int32), .ref 87]) (d1 := 91) (x1 := 1) (x2 := x) (by decide +kernel) ln_13_109 mf_X11_unlike rfl sh_0 rfl (by decide) np_X11_unlike rfl (Nat.le_of_ble_eq_true rfl) (by decide) (Nat.add_comm _ _) (tq_M_mono (am_X11_unlike h) ?_)
  intro o z1 h
  rcases h with h | ⟨rfl, h⟩
  · refine Or.inl (tq_wi_e (fun r2 z1 h => ?_) o z1 h)
    refine tq_s_i2l (by decide +kernel) ?_
    refine tq_g_last (by decide +kernel) sh_87 vi_0_1 (fun z3 ez3 => ?_)
    replace h := h z3 ez3
    refine tq_s_goto (off := 6) (tgt := 14) (by decide +kernel) (by decide +kernel) ?_
    refine tq_k_ic (n := 0) (v := (0 : Int32)) (by decide +kernel) kc_0 ?_
    exact tq_ret_i (st := []) (by decide +kernel) rfl h
  · refine Or.inr ⟨4, "java/lang/UnsupportedOperationException", 11, rfl, rfl, hx_L_unlike_0, 2, by decide, Or.inl ⟨2, rfl, (by decide +kernel), ?_⟩⟩
    refine tq_k_ic (n := 1) (v := (1 : Int32)) (by decide +kernel) kc_1 ?_
    exact tq_ret_i (st := []) (by decide +kernel) rfl h
def wm_L_exact  (z : tq_S) (Q : tq_O → tq_S → Prop) : Prop := wm_X11_exact z (fun o z1 => tq_wi (fun r2 z1 => ∀ z3 : tq_S, z3 = tq_sal z1 87 (vp_updL (tq_al z1 87) (Int32.toNatClampNeg (0 : Int32)) (Int32.toInt64 r2)) → Q (.inl (some (.int (0 : Int32)))) z3) o z1 ∨ (o = .inr 4 ∧ Q (.inl (some (.int (1 : Int32)))) z1))
theorem am_L_exact {K : Nat × (Nat → Int32)} {x : Nat}  {z : tq_S} {Q : tq_O → tq_S → Prop} (h : wm_L_exact z Q) : tq_M K 91 (x + 1) mm_L_exact [.ref 0, .ref 87] z Q := by
  unfold wm_L_exact at h
  refine tq_enterH (L := [.ref 0, .ref 87, .null]) mf_L_exact.1 (by decide +kernel) rfl rfl (Nat.le_of_ble_eq_true rfl) ?_
  refine tq_s_aload_n (kk := 1) (by decide +kernel) rfl ?_
  refine tq_k_ic (n := 0) (v := (0 : Int32)) (by decide +kernel) kc_0 ?_
  refine tq_s_aload_n (kk := 0) (by decide +kernel) rfl ?_
  refine tq_callVX (as := []) (st := [.int (0 : Int32), .ref 87]) (d1 := 90) (x1 := 1) (x2 := x) (by decide +kernel) ln_13_106 mf_X11_exact rfl sh_0 rfl (by decide) np_X11_exact rfl (Nat.le_of_ble_eq_true rfl) (by decide) (Nat.add_comm _ _) (tq_M_mono (am_X11_exact h) ?_)
  intro o z1 h
  rcases h with h | ⟨rfl, h⟩
  · refine Or.inl (tq_wi_e (fun r2 z1 h => ?_) o z1 h)
    refine tq_s_i2l (by decide +kernel) ?_
    refine tq_g_last (by decide +kernel) sh_87 vi_0_1 (fun z3 ez3 => ?_)
    replace h := h z3 ez3
    refine tq_s_goto (off := 6) (tgt := 14) (by decide +kernel) (by decide +kernel) ?_
    refine tq_k_ic (n := 0) (v := (0 : Int32)) (by decide +kernel) kc_0 ?_
    exact tq_ret_i (st := []) (by decide +kernel) rfl h
  · refine Or.inr ⟨4, "java/lang/UnsupportedOperationException", 11, rfl, rfl, hx_L_exact_0, 2, by decide, Or.inl ⟨2, rfl, (by decide +kernel), ?_⟩⟩
    refine tq_k_ic (n := 1) (v := (1 : Int32)) (by decide +kernel) kc_1 ?_
    exact tq_ret_i (st := []) (by decide +kernel) rfl h
def wm_L_kind (a1 : Int32) (a2 : Int32) (a3 : Int32) (z : tq_S) (Q : tq_O → tq_S → Prop) : Prop := wm_X11_kind a1 a2 a3 z (fun o z1 => tq_wi (fun r2 z1 => ∀ z3 : tq_S, z3 = tq_sal z1 87 (vp_updL (tq_al z1 87) (Int32.toNatClampNeg (0 : Int32)) (Int32.toInt64 r2)) → Q (.inl (some (.int (0 : Int32)))) z3) o z1 ∨ (o = .inr 1 ∧ Q (.inl (some (.int (1 : Int32)))) z1) ∨ (o = .inr 2 ∧ Q (.inl (some (.int (2 : Int32)))) z1) ∨ (o = .inr 4 ∧ Q (.inl (some (.int (3 : Int32)))) z1))
theorem am_L_kind {K : Nat × (Nat → Int32)} {x : Nat} {a1 : Int32} {a2 : Int32} {a3 : Int32} {z : tq_S} {Q : tq_O → tq_S → Prop} (h : wm_L_kind a1 a2 a3 z Q) : tq_M K 4 (x + 1) mm_L_kind [.ref 0, .int a1, .int a2, .int a3, .ref 87] z Q := by
  unfold wm_L_kind at h
  refine tq_enterH (L := [.ref 0, .int a1, .int a2, .int a3, .ref 87, .null]) mf_L_kind.1 (by decide +kernel) rfl rfl (Nat.le_of_ble_eq_true rfl) ?_
  refine tq_s_aload (i := 4) (by decide +kernel) rfl ?_
  refine tq_k_ic (n := 0) (v := (0 : Int32)) (by decide +kernel) kc_0 ?_
  refine tq_s_aload_n (kk := 0) (by decide +kernel) rfl ?_
  refine tq_s_iload_n (kk := 1) (by decide +kernel) rfl ?_
  refine tq_s_iload_n (kk := 2) (by decide +kernel) rfl ?_
  refine tq_s_iload_n (kk := 3) (by decide +kernel) rfl ?_
  refine tq_callVX (as := [.int a1, .int a2, .int a3]) (st := [.int (0 : Int32), .ref 87]) (d1 := 3) (x1 := 1) (x2 := x) (by decide +kernel) ln_13_102 mf_X11_kind rfl sh_0 rfl (by decide) np_X11_kind rfl (Nat.le_of_ble_eq_true rfl) (by decide) (Nat.add_comm _ _) (tq_M_mono (am_X11_kind h) ?_)
  intro o z1 h
  rcases h with h | ⟨rfl, h⟩ | ⟨rfl, h⟩ | ⟨rfl, h⟩
  · refine Or.inl (tq_wi_e (fun r2 z1 h => ?_) o z1 h)
    refine tq_s_i2l (by decide +kernel) ?_
    refine tq_g_last (by decide +kernel) sh_87 vi_0_1 (fun z3 ez3 => ?_)
    replace h := h z3 ez3
    refine tq_s_goto (off := 15) (tgt := 27) (by decide +kernel) (by decide +kernel) ?_
    refine tq_k_ic (n := 0) (v := (0 : Int32)) (by decide +kernel) kc_0 ?_
    exact tq_ret_i (st := []) (by decide +kernel) rfl h
  · refine Or.inr ⟨1, "java/lang/IllegalArgumentException", 15, rfl, rfl, hx_L_kind_0, 5, by decide, Or.inr ⟨(by decide +kernel), ?_⟩⟩
    refine tq_k_ic (n := 1) (v := (1 : Int32)) (by decide +kernel) kc_1 ?_
    exact tq_ret_i (st := []) (by decide +kernel) rfl h
  · refine Or.inr ⟨2, "java/lang/IllegalStateException", 19, rfl, rfl, hx_L_kind_1, 5, by decide, Or.inr ⟨(by decide +kernel), ?_⟩⟩
    refine tq_k_ic (n := 2) (v := (2 : Int32)) (by decide +kernel) kc_2 ?_
    exact tq_ret_i (st := []) (by decide +kernel) rfl h
  · refine Or.inr ⟨4, "java/lang/UnsupportedOperationException", 23, rfl, rfl, hx_L_kind_2, 5, by decide, Or.inr ⟨(by decide +kernel), ?_⟩⟩
    refine tq_k_ic (n := 3) (v := (3 : Int32)) (by decide +kernel) kc_3 ?_
    exact tq_ret_i (st := []) (by decide +kernel) rfl h
def wm_L_pieceCell (a1 : Int32) (a2 : Int32) (z : tq_S) (Q : tq_O → tq_S → Prop) : Prop := wm_X11_pieceCell a1 a2 z (fun o z1 => tq_wi (fun r2 z1 => ∀ z3 : tq_S, z3 = tq_sal z1 87 (vp_updL (tq_al z1 87) (Int32.toNatClampNeg (0 : Int32)) (Int32.toInt64 r2)) → Q (.inl (some (.int (0 : Int32)))) z3) o z1 ∨ (o = .inr 1 ∧ Q (.inl (some (.int (1 : Int32)))) z1) ∨ (o = .inr 2 ∧ Q (.inl (some (.int (2 : Int32)))) z1))
theorem am_L_pieceCell {K : Nat × (Nat → Int32)} {x : Nat} {a1 : Int32} {a2 : Int32} {z : tq_S} {Q : tq_O → tq_S → Prop} (h : wm_L_pieceCell a1 a2 z Q) : tq_M K 3 (x + 1) mm_L_pieceCell [.ref 0, .int a1, .int a2, .ref 87] z Q := by
  unfold wm_L_pieceCell at h
  refine tq_enterH (L := [.ref 0, .int a1, .int a2, .ref 87, .null]) mf_L_pieceCell.1 (by decide +kernel) rfl rfl (Nat.le_of_ble_eq_true rfl) ?_
  refine tq_s_aload_n (kk := 3) (by decide +kernel) rfl ?_
  refine tq_k_ic (n := 0) (v := (0 : Int32)) (by decide +kernel) kc_0 ?_
  refine tq_s_aload_n (kk := 0) (by decide +kernel) rfl ?_
  refine tq_s_iload_n (kk := 1) (by decide +kernel) rfl ?_
  refine tq_s_iload_n (kk := 2) (by decide +kernel) rfl ?_
  refine tq_callVX (as := [.int a1, .int a2]) (st := [.int (0 : Int32), .ref 87]) (d1 := 2) (x1 := 1) (x2 := x) (by decide +kernel) ln_13_99 mf_X11_pieceCell rfl sh_0 rfl (by decide) np_X11_pieceCell rfl (Nat.le_of_ble_eq_true rfl) (by decide) (Nat.add_comm _ _) (tq_M_mono (am_X11_pieceCell h) ?_)
  intro o z1 h
  rcases h with h | ⟨rfl, h⟩ | ⟨rfl, h⟩
  · refine Or.inl (tq_wi_e (fun r2 z1 h => ?_) o z1 h)
    refine tq_s_i2l (by decide +kernel) ?_
    refine tq_g_last (by decide +kernel) sh_87 vi_0_1 (fun z3 ez3 => ?_)
    replace h := h z3 ez3
    refine tq_s_goto (off := 11) (tgt := 21) (by decide +kernel) (by decide +kernel) ?_
    refine tq_k_ic (n := 0) (v := (0 : Int32)) (by decide +kernel) kc_0 ?_
    exact tq_ret_i (st := []) (by decide +kernel) rfl h
  · refine Or.inr ⟨1, "java/lang/IllegalArgumentException", 13, rfl, rfl, hx_L_pieceCell_0, 4, by decide, Or.inr ⟨(by decide +kernel), ?_⟩⟩
    refine tq_k_ic (n := 1) (v := (1 : Int32)) (by decide +kernel) kc_1 ?_
    exact tq_ret_i (st := []) (by decide +kernel) rfl h
  · refine Or.inr ⟨2, "java/lang/IllegalStateException", 17, rfl, rfl, hx_L_pieceCell_1, 4, by decide, Or.inr ⟨(by decide +kernel), ?_⟩⟩
    refine tq_k_ic (n := 2) (v := (2 : Int32)) (by decide +kernel) kc_2 ?_
    exact tq_ret_i (st := []) (by decide +kernel) rfl h
def wm_L_roles (a1 : Int32) (z : tq_S) (Q : tq_O → tq_S → Prop) : Prop := wm_X11_roles a1 z (fun o z1 => tq_wi (fun r2 z1 => ∀ z3 : tq_S, z3 = tq_sal z1 87 (vp_updL (tq_al z1 87) (Int32.toNatClampNeg (0 : Int32)) (Int32.toInt64 r2)) → Q (.inl (some (.int (0 : Int32)))) z3) o z1 ∨ (o = .inr 1 ∧ Q (.inl (some (.int (1 : Int32)))) z1))
theorem am_L_roles {K : Nat × (Nat → Int32)} {x : Nat} {a1 : Int32} {z : tq_S} {Q : tq_O → tq_S → Prop} (h : wm_L_roles a1 z Q) : tq_M K 6 (x + 1) mm_L_roles [.ref 0, .int a1, .ref 87] z Q := by
  unfold wm_L_roles at h
  refine tq_enterH (L := [.ref 0, .int a1, .ref 87, .null]) mf_L_roles.1 (by decide +kernel) rfl rfl (Nat.le_of_ble_eq_true rfl) ?_
  refine tq_s_aload_n (kk := 2) (by decide +kernel) rfl ?_
  refine tq_k_ic (n := 0) (v := (0 : Int32)) (by decide +kernel) kc_0 ?_
  refine tq_s_aload_n (kk := 0) (by decide +kernel) rfl ?_
  refine tq_s_iload_n (kk := 1) (by decide +kernel) rfl ?_
  refine tq_callVX (as := [.int a1]) (st := [.int (0 : Int32), .ref 87]) (d1 := 5) (x1 := 1) (x2 := x) (by decide +kernel) ln_13_96 mf_X11_roles rfl sh_0 rfl (by decide) np_X11_roles rfl (Nat.le_of_ble_eq_true rfl) (by decide) (Nat.add_comm _ _) (tq_M_mono (am_X11_roles h) ?_)
  intro o z1 h
  rcases h with h | ⟨rfl, h⟩
  · refine Or.inl (tq_wi_e (fun r2 z1 h => ?_) o z1 h)
    refine tq_s_i2l (by decide +kernel) ?_
    refine tq_g_last (by decide +kernel) sh_87 vi_0_1 (fun z3 ez3 => ?_)
    replace h := h z3 ez3
    refine tq_s_goto (off := 6) (tgt := 15) (by decide +kernel) (by decide +kernel) ?_
    refine tq_k_ic (n := 0) (v := (0 : Int32)) (by decide +kernel) kc_0 ?_
    exact tq_ret_i (st := []) (by decide +kernel) rfl h
  · refine Or.inr ⟨1, "java/lang/IllegalArgumentException", 12, rfl, rfl, hx_L_roles_0, 3, by decide, Or.inl ⟨3, rfl, (by decide +kernel), ?_⟩⟩
    refine tq_k_ic (n := 1) (v := (1 : Int32)) (by decide +kernel) kc_1 ?_
    exact tq_ret_i (st := []) (by decide +kernel) rfl h
def wm_L_role (a1 : Int32) (a2 : Int32) (z : tq_S) (Q : tq_O → tq_S → Prop) : Prop := wm_X11_role a1 a2 z (fun o z1 => tq_wi (fun r2 z1 => ∀ z3 : tq_S, z3 = tq_sal z1 87 (vp_updL (tq_al z1 87) (Int32.toNatClampNeg (0 : Int32)) (Int32.toInt64 r2)) → Q (.inl (some (.int (0 : Int32)))) z3) o z1 ∨ (o = .inr 3 ∧ Q (.inl (some (.int (1 : Int32)))) z1))
theorem am_L_role {K : Nat × (Nat → Int32)} {x : Nat} {a1 : Int32} {a2 : Int32} {z : tq_S} {Q : tq_O → tq_S → Prop} (h : wm_L_role a1 a2 z Q) : tq_M K 6 (x + 1) mm_L_role [.ref 0, .int a1, .int a2, .ref 87] z Q := by
  unfold wm_L_role at h
  refine tq_enterH (L := [.ref 0, .int a1, .int a2, .ref 87, .null]) mf_L_role.1 (by decide +kernel) rfl rfl (Nat.le_of_ble_eq_true rfl) ?_
  refine tq_s_aload_n (kk := 3) (by decide +kernel) rfl ?_
  refine tq_k_ic (n := 0) (v := (0 : Int32)) (by decide +kernel) kc_0 ?_
  refine tq_s_aload_n (kk := 0) (by decide +kernel) rfl ?_
  refine tq_s_iload_n (kk := 1) (by decide +kernel) rfl ?_
  refine tq_s_iload_n (kk := 2) (by decide +kernel) rfl ?_
  refine tq_callVX (as := [.int a1, .int a2]) (st := [.int (0 : Int32), .ref 87]) (d1 := 5) (x1 := 1) (x2 := x) (by decide +kernel) ln_13_93 mf_X11_role rfl sh_0 rfl (by decide) np_X11_role rfl (Nat.le_of_ble_eq_true rfl) (by decide) (Nat.add_comm _ _) (tq_M_mono (am_X11_role h) ?_)
  intro o z1 h
  rcases h with h | ⟨rfl, h⟩
  · refine Or.inl (tq_wi_e (fun r2 z1 h => ?_) o z1 h)
    refine tq_s_i2l (by decide +kernel) ?_
    refine tq_g_last (by decide +kernel) sh_87 vi_0_1 (fun z3 ez3 => ?_)
    replace h := h z3 ez3
    refine tq_s_goto (off := 7) (tgt := 17) (by decide +kernel) (by decide +kernel) ?_
    refine tq_k_ic (n := 0) (v := (0 : Int32)) (by decide +kernel) kc_0 ?_
    exact tq_ret_i (st := []) (by decide +kernel) rfl h
  · refine Or.inr ⟨3, "java/lang/IndexOutOfBoundsException", 13, rfl, rfl, hx_L_role_0, 4, by decide, Or.inr ⟨(by decide +kernel), ?_⟩⟩
    refine tq_k_ic (n := 1) (v := (1 : Int32)) (by decide +kernel) kc_1 ?_
    exact tq_ret_i (st := []) (by decide +kernel) rfl h
def wm_L_cuts  (z : tq_S) (Q : tq_O → tq_S → Prop) : Prop := wm_X11_cuts z (fun o z1 => tq_wi (fun r2 z1 => ∀ z3 : tq_S, z3 = tq_sal z1 87 (vp_updL (tq_al z1 87) (Int32.toNatClampNeg (0 : Int32)) (Int32.toInt64 r2)) → Q (.inl (some (.int (0 : Int32)))) z3) o z1 ∨ (o = .inr 5 ∧ Q (.inl (some (.int (1 : Int32)))) z1))
theorem am_L_cuts {K : Nat × (Nat → Int32)} {x : Nat}  {z : tq_S} {Q : tq_O → tq_S → Prop} (h : wm_L_cuts z Q) : tq_M K 2 (x + 1) mm_L_cuts [.ref 0, .ref 87] z Q := by
  unfold wm_L_cuts at h
  refine tq_enterH (L := [.ref 0, .ref 87, .null]) mf_L_cuts.1 (by decide +kernel) rfl rfl (Nat.le_of_ble_eq_true rfl) ?_
  refine tq_s_aload_n (kk := 1) (by decide +kernel) rfl ?_
  refine tq_k_ic (n := 0) (v := (0 : Int32)) (by decide +kernel) kc_0 ?_
  refine tq_s_aload_n (kk := 0) (by decide +kernel) rfl ?_
  refine tq_callVX (as := []) (st := [.int (0 : Int32), .ref 87]) (d1 := 1) (x1 := 1) (x2 := x) (by decide +kernel) ln_13_90 mf_X11_cuts rfl sh_0 rfl (by decide) np_X11_cuts rfl (Nat.le_of_ble_eq_true rfl) (by decide) (Nat.add_comm _ _) (tq_M_mono (am_X11_cuts h) ?_)
  intro o z1 h
  rcases h with h | ⟨rfl, h⟩
  · refine Or.inl (tq_wi_e (fun r2 z1 h => ?_) o z1 h)
    refine tq_s_i2l (by decide +kernel) ?_
    refine tq_g_last (by decide +kernel) sh_87 vi_0_1 (fun z3 ez3 => ?_)
    replace h := h z3 ez3
    refine tq_s_goto (off := 6) (tgt := 14) (by decide +kernel) (by decide +kernel) ?_
    refine tq_k_ic (n := 0) (v := (0 : Int32)) (by decide +kernel) kc_0 ?_
    exact tq_ret_i (st := []) (by decide +kernel) rfl h
  · refine Or.inr ⟨5, "java/util/NoSuchElementException", 11, rfl, rfl, hx_L_cuts_0, 2, by decide, Or.inl ⟨2, rfl, (by decide +kernel), ?_⟩⟩
    refine tq_k_ic (n := 1) (v := (1 : Int32)) (by decide +kernel) kc_1 ?_
    exact tq_ret_i (st := []) (by decide +kernel) rfl h
def wm_L_height (a1 : Int32) (a2 : Int32) (z : tq_S) (Q : tq_O → tq_S → Prop) : Prop := wm_X11_height a1 a2 z (fun o z1 => tq_wi (fun r2 z1 => ∀ z3 : tq_S, z3 = tq_sal z1 87 (vp_updL (tq_al z1 87) (Int32.toNatClampNeg (0 : Int32)) (Int32.toInt64 r2)) → Q (.inl (some (.int (0 : Int32)))) z3) o z1 ∨ (o = .inr 4 ∧ Q (.inl (some (.int (1 : Int32)))) z1) ∨ (o = .inr 3 ∧ Q (.inl (some (.int (2 : Int32)))) z1) ∨ (o = .inr 5 ∧ Q (.inl (some (.int (3 : Int32)))) z1))
theorem am_L_height {K : Nat × (Nat → Int32)} {x : Nat} {a1 : Int32} {a2 : Int32} {z : tq_S} {Q : tq_O → tq_S → Prop} (h : wm_L_height a1 a2 z Q) : tq_M K 6 (x + 1) mm_L_height [.ref 0, .int a1, .int a2, .ref 87] z Q := by
  unfold wm_L_height at h
  refine tq_enterH (L := [.ref 0, .int a1, .int a2, .ref 87, .null]) mf_L_height.1 (by decide +kernel) rfl rfl (Nat.le_of_ble_eq_true rfl) ?_
  refine tq_s_aload_n (kk := 3) (by decide +kernel) rfl ?_
  refine tq_k_ic (n := 0) (v := (0 : Int32)) (by decide +kernel) kc_0 ?_
  refine tq_s_aload_n (kk := 0) (by decide +kernel) rfl ?_
  refine tq_s_iload_n (kk := 1) (by decide +kernel) rfl ?_
  refine tq_s_iload_n (kk := 2) (by decide +kernel) rfl ?_
  refine tq_callVX (as := [.int a1, .int a2]) (st := [.int (0 : Int32), .ref 87]) (d1 := 5) (x1 := 1) (x2 := x) (by decide +kernel) ln_13_87 mf_X11_height rfl sh_0 rfl (by decide) np_X11_height rfl (Nat.le_of_ble_eq_true rfl) (by decide) (Nat.add_comm _ _) (tq_M_mono (am_X11_height h) ?_)
  intro o z1 h
  rcases h with h | ⟨rfl, h⟩ | ⟨rfl, h⟩ | ⟨rfl, h⟩
  · refine Or.inl (tq_wi_e (fun r2 z1 h => ?_) o z1 h)
    refine tq_s_i2l (by decide +kernel) ?_
    refine tq_g_last (by decide +kernel) sh_87 vi_0_1 (fun z3 ez3 => ?_)
    replace h := h z3 ez3
    refine tq_s_goto (off := 15) (tgt := 25) (by decide +kernel) (by decide +kernel) ?_
    refine tq_k_ic (n := 0) (v := (0 : Int32)) (by decide +kernel) kc_0 ?_
    exact tq_ret_i (st := []) (by decide +kernel) rfl h
  · refine Or.inr ⟨4, "java/lang/UnsupportedOperationException", 13, rfl, rfl, hx_L_height_0, 4, by decide, Or.inr ⟨(by decide +kernel), ?_⟩⟩
    refine tq_k_ic (n := 1) (v := (1 : Int32)) (by decide +kernel) kc_1 ?_
    exact tq_ret_i (st := []) (by decide +kernel) rfl h
  · refine Or.inr ⟨3, "java/lang/IndexOutOfBoundsException", 17, rfl, rfl, hx_L_height_1, 4, by decide, Or.inr ⟨(by decide +kernel), ?_⟩⟩
    refine tq_k_ic (n := 2) (v := (2 : Int32)) (by decide +kernel) kc_2 ?_
    exact tq_ret_i (st := []) (by decide +kernel) rfl h
  · refine Or.inr ⟨5, "java/util/NoSuchElementException", 21, rfl, rfl, hx_L_height_2, 4, by decide, Or.inr ⟨(by decide +kernel), ?_⟩⟩
    refine tq_k_ic (n := 3) (v := (3 : Int32)) (by decide +kernel) kc_3 ?_
    exact tq_ret_i (st := []) (by decide +kernel) rfl h
def wm_L_apart  (z : tq_S) (Q : tq_O → tq_S → Prop) : Prop := wm_X11_apart z (fun o z1 => tq_wi (fun r2 z1 => ∀ z3 : tq_S, z3 = tq_sal z1 87 (vp_updL (tq_al z1 87) (Int32.toNatClampNeg (0 : Int32)) (Int32.toInt64 r2)) → Q (.inl (some (.int (0 : Int32)))) z3) o z1 ∨ (o = .inr 4 ∧ Q (.inl (some (.int (1 : Int32)))) z1) ∨ (o = .inr 5 ∧ Q (.inl (some (.int (2 : Int32)))) z1))
theorem am_L_apart {K : Nat × (Nat → Int32)} {x : Nat}  {z : tq_S} {Q : tq_O → tq_S → Prop} (h : wm_L_apart z Q) : tq_M K 6 (x + 1) mm_L_apart [.ref 0, .ref 87] z Q := by
  unfold wm_L_apart at h
  refine tq_enterH (L := [.ref 0, .ref 87, .null]) mf_L_apart.1 (by decide +kernel) rfl rfl (Nat.le_of_ble_eq_true rfl) ?_
  refine tq_s_aload_n (kk := 1) (by decide +kernel) rfl ?_
  refine tq_k_ic (n := 0) (v := (0 : Int32)) (by decide +kernel) kc_0 ?_
  refine tq_s_aload_n (kk := 0) (by decide +kernel) rfl ?_
  refine tq_callVX (as := []) (st := [.int (0 : Int32), .ref 87]) (d1 := 5) (x1 := 1) (x2 := x) (by decide +kernel) ln_13_84 mf_X11_apart rfl sh_0 rfl (by decide) np_X11_apart rfl (Nat.le_of_ble_eq_true rfl) (by decide) (Nat.add_comm _ _) (tq_M_mono (am_X11_apart h) ?_)
  intro o z1 h
  rcases h with h | ⟨rfl, h⟩ | ⟨rfl, h⟩
  · refine Or.inl (tq_wi_e (fun r2 z1 h => ?_) o z1 h)
    refine tq_s_i2l (by decide +kernel) ?_
    refine tq_g_last (by decide +kernel) sh_87 vi_0_1 (fun z3 ez3 => ?_)
    replace h := h z3 ez3
    refine tq_s_goto (off := 9) (tgt := 17) (by decide +kernel) (by decide +kernel) ?_
    refine tq_k_ic (n := 0) (v := (0 : Int32)) (by decide +kernel) kc_0 ?_
    exact tq_ret_i (st := []) (by decide +kernel) rfl h
  · refine Or.inr ⟨4, "java/lang/UnsupportedOperationException", 11, rfl, rfl, hx_L_apart_0, 2, by decide, Or.inl ⟨2, rfl, (by decide +kernel), ?_⟩⟩
    refine tq_k_ic (n := 1) (v := (1 : Int32)) (by decide +kernel) kc_1 ?_
    exact tq_ret_i (st := []) (by decide +kernel) rfl h
  · refine Or.inr ⟨5, "java/util/NoSuchElementException", 14, rfl, rfl, hx_L_apart_1, 2, by decide, Or.inl ⟨2, rfl, (by decide +kernel), ?_⟩⟩
    refine tq_k_ic (n := 2) (v := (2 : Int32)) (by decide +kernel) kc_2 ?_
    exact tq_ret_i (st := []) (by decide +kernel) rfl h
def wm_L_keep  (z : tq_S) (Q : tq_O → tq_S → Prop) : Prop := wm_X11_keep z (fun o z1 => tq_wi (fun r2 z1 => ∀ z3 : tq_S, z3 = tq_sal z1 87 (vp_updL (tq_al z1 87) (Int32.toNatClampNeg (0 : Int32)) (Int32.toInt64 r2)) → Q (.inl (some (.int (0 : Int32)))) z3) o z1 ∨ (o = .inr 5 ∧ Q (.inl (some (.int (1 : Int32)))) z1))
theorem am_L_keep {K : Nat × (Nat → Int32)} {x : Nat}  {z : tq_S} {Q : tq_O → tq_S → Prop} (h : wm_L_keep z Q) : tq_M K 2 (x + 1) mm_L_keep [.ref 0, .ref 87] z Q := by
  unfold wm_L_keep at h
  refine tq_enterH (L := [.ref 0, .ref 87, .null]) mf_L_keep.1 (by decide +kernel) rfl rfl (Nat.le_of_ble_eq_true rfl) ?_
  refine tq_s_aload_n (kk := 1) (by decide +kernel) rfl ?_
  refine tq_k_ic (n := 0) (v := (0 : Int32)) (by decide +kernel) kc_0 ?_
  refine tq_s_aload_n (kk := 0) (by decide +kernel) rfl ?_
  refine tq_callVX (as := []) (st := [.int (0 : Int32), .ref 87]) (d1 := 1) (x1 := 1) (x2 := x) (by decide +kernel) ln_13_81 mf_X11_keep rfl sh_0 rfl (by decide) np_X11_keep rfl (Nat.le_of_ble_eq_true rfl) (by decide) (Nat.add_comm _ _) (tq_M_mono (am_X11_keep h) ?_)
  intro o z1 h
  rcases h with h | ⟨rfl, h⟩
  · refine Or.inl (tq_wi_e (fun r2 z1 h => ?_) o z1 h)
    refine tq_s_i2l (by decide +kernel) ?_
    refine tq_g_last (by decide +kernel) sh_87 vi_0_1 (fun z3 ez3 => ?_)
    replace h := h z3 ez3
    refine tq_s_goto (off := 6) (tgt := 14) (by decide +kernel) (by decide +kernel) ?_
    refine tq_k_ic (n := 0) (v := (0 : Int32)) (by decide +kernel) kc_0 ?_
    exact tq_ret_i (st := []) (by decide +kernel) rfl h
  · refine Or.inr ⟨5, "java/util/NoSuchElementException", 11, rfl, rfl, hx_L_keep_0, 2, by decide, Or.inl ⟨2, rfl, (by decide +kernel), ?_⟩⟩
    refine tq_k_ic (n := 1) (v := (1 : Int32)) (by decide +kernel) kc_1 ?_
    exact tq_ret_i (st := []) (by decide +kernel) rfl h
def wm_L_undo  (z : tq_S) (Q : tq_O → tq_S → Prop) : Prop := wm_X11_undo z (fun o z1 => tq_wi (fun r2 z1 => ∀ z3 : tq_S, z3 = tq_sal z1 87 (vp_updL (tq_al z1 87) (Int32.toNatClampNeg (0 : Int32)) (Int32.toInt64 r2)) → Q (.inl (some (.int (0 : Int32)))) z3) o z1 ∨ (o = .inr 2 ∧ Q (.inl (some (.int (1 : Int32)))) z1))
theorem am_L_undo {K : Nat × (Nat → Int32)} {x : Nat}  {z : tq_S} {Q : tq_O → tq_S → Prop} (h : wm_L_undo z Q) : tq_M K 2 (x + 1) mm_L_undo [.ref 0, .ref 87] z Q := by
  unfold wm_L_undo at h
  refine tq_enterH (L := [.ref 0, .ref 87, .null]) mf_L_undo.1 (by decide +kernel) rfl rfl (Nat.le_of_ble_eq_true rfl) ?_
  refine tq_s_aload_n (kk := 1) (by decide +kernel) rfl ?_
  refine tq_k_ic (n := 0) (v := (0 : Int32)) (by decide +kernel) kc_0 ?_
  refine tq_s_aload_n (kk := 0) (by decide +kernel) rfl ?_
  refine tq_callVX (as := []) (st := [.int (0 : Int32), .ref 87]) (d1 := 1) (x1 := 1) (x2 := x) (by decide +kernel) ln_13_76 mf_X11_undo rfl sh_0 rfl (by decide) np_X11_undo rfl (Nat.le_of_ble_eq_true rfl) (by decide) (Nat.add_comm _ _) (tq_M_mono (am_X11_undo h) ?_)
  intro o z1 h
  rcases h with h | ⟨rfl, h⟩
  · refine Or.inl (tq_wi_e (fun r2 z1 h => ?_) o z1 h)
    refine tq_s_i2l (by decide +kernel) ?_
    refine tq_g_last (by decide +kernel) sh_87 vi_0_1 (fun z3 ez3 => ?_)
    replace h := h z3 ez3
    refine tq_s_goto (off := 6) (tgt := 14) (by decide +kernel) (by decide +kernel) ?_
    refine tq_k_ic (n := 0) (v := (0 : Int32)) (by decide +kernel) kc_0 ?_
    exact tq_ret_i (st := []) (by decide +kernel) rfl h
  · refine Or.inr ⟨2, "java/lang/IllegalStateException", 11, rfl, rfl, hx_L_undo_0, 2, by decide, Or.inl ⟨2, rfl, (by decide +kernel), ?_⟩⟩
    refine tq_k_ic (n := 1) (v := (1 : Int32)) (by decide +kernel) kc_1 ?_
    exact tq_ret_i (st := []) (by decide +kernel) rfl h
def wm_L_flip (a1 : Int32) (z : tq_S) (Q : tq_O → tq_S → Prop) : Prop := wm_X11_flip a1 z (fun o z1 => tq_wi (fun r2 z1 => ∀ z3 : tq_S, z3 = tq_sal z1 87 (vp_updL (tq_al z1 87) (Int32.toNatClampNeg (0 : Int32)) (Int32.toInt64 r2)) → Q (.inl (some (.int (0 : Int32)))) z3) o z1 ∨ (o = .inr 5 ∧ Q (.inl (some (.int (1 : Int32)))) z1) ∨ (o = .inr 3 ∧ Q (.inl (some (.int (2 : Int32)))) z1))
theorem am_L_flip {K : Nat × (Nat → Int32)} {x : Nat} {a1 : Int32} {z : tq_S} {Q : tq_O → tq_S → Prop} (h : wm_L_flip a1 z Q) : tq_M K 5 (x + 1) mm_L_flip [.ref 0, .int a1, .ref 87] z Q := by
  unfold wm_L_flip at h
  refine tq_enterH (L := [.ref 0, .int a1, .ref 87, .null]) mf_L_flip.1 (by decide +kernel) rfl rfl (Nat.le_of_ble_eq_true rfl) ?_
  refine tq_s_aload_n (kk := 2) (by decide +kernel) rfl ?_
  refine tq_k_ic (n := 0) (v := (0 : Int32)) (by decide +kernel) kc_0 ?_
  refine tq_s_aload_n (kk := 0) (by decide +kernel) rfl ?_
  refine tq_s_iload_n (kk := 1) (by decide +kernel) rfl ?_
  refine tq_callVX (as := [.int a1]) (st := [.int (0 : Int32), .ref 87]) (d1 := 4) (x1 := 1) (x2 := x) (by decide +kernel) ln_13_72 mf_X11_flip rfl sh_0 rfl (by decide) np_X11_flip rfl (Nat.le_of_ble_eq_true rfl) (by decide) (Nat.add_comm _ _) (tq_M_mono (am_X11_flip h) ?_)
  intro o z1 h
  rcases h with h | ⟨rfl, h⟩ | ⟨rfl, h⟩
  · refine Or.inl (tq_wi_e (fun r2 z1 h => ?_) o z1 h)
    refine tq_s_i2l (by decide +kernel) ?_
    refine tq_g_last (by decide +kernel) sh_87 vi_0_1 (fun z3 ez3 => ?_)
    replace h := h z3 ez3
    refine tq_s_goto (off := 9) (tgt := 18) (by decide +kernel) (by decide +kernel) ?_
    refine tq_k_ic (n := 0) (v := (0 : Int32)) (by decide +kernel) kc_0 ?_
    exact tq_ret_i (st := []) (by decide +kernel) rfl h
  · refine Or.inr ⟨5, "java/util/NoSuchElementException", 12, rfl, rfl, hx_L_flip_0, 3, by decide, Or.inl ⟨3, rfl, (by decide +kernel), ?_⟩⟩
    refine tq_k_ic (n := 1) (v := (1 : Int32)) (by decide +kernel) kc_1 ?_
    exact tq_ret_i (st := []) (by decide +kernel) rfl h
  · refine Or.inr ⟨3, "java/lang/IndexOutOfBoundsException", 15, rfl, rfl, hx_L_flip_1, 3, by decide, Or.inl ⟨3, rfl, (by decide +kernel), ?_⟩⟩
    refine tq_k_ic (n := 2) (v := (2 : Int32)) (by decide +kernel) kc_2 ?_
    exact tq_ret_i (st := []) (by decide +kernel) rfl h
def wm_L_flips  (z : tq_S) (Q : tq_O → tq_S → Prop) : Prop := wm_X11_flips z (fun o z1 => tq_wi (fun r2 z1 => ∀ z3 : tq_S, z3 = tq_sal z1 87 (vp_updL (tq_al z1 87) (Int32.toNatClampNeg (0 : Int32)) (Int32.toInt64 r2)) → Q (.inl (some (.int (0 : Int32)))) z3) o z1 ∨ (o = .inr 5 ∧ Q (.inl (some (.int (1 : Int32)))) z1))
theorem am_L_flips {K : Nat × (Nat → Int32)} {x : Nat}  {z : tq_S} {Q : tq_O → tq_S → Prop} (h : wm_L_flips z Q) : tq_M K 5 (x + 1) mm_L_flips [.ref 0, .ref 87] z Q := by
  unfold wm_L_flips at h
  refine tq_enterH (L := [.ref 0, .ref 87, .null]) mf_L_flips.1 (by decide +kernel) rfl rfl (Nat.le_of_ble_eq_true rfl) ?_
  refine tq_s_aload_n (kk := 1) (by decide +kernel) rfl ?_
  refine tq_k_ic (n := 0) (v := (0 : Int32)) (by decide +kernel) kc_0 ?_
  refine tq_s_aload_n (kk := 0) (by decide +kernel) rfl ?_
  refine tq_callVX (as := []) (st := [.int (0 : Int32), .ref 87]) (d1 := 4) (x1 := 1) (x2 := x) (by decide +kernel) ln_13_69 mf_X11_flips rfl sh_0 rfl (by decide) np_X11_flips rfl (Nat.le_of_ble_eq_true rfl) (by decide) (Nat.add_comm _ _) (tq_M_mono (am_X11_flips h) ?_)
  intro o z1 h
  rcases h with h | ⟨rfl, h⟩
  · refine Or.inl (tq_wi_e (fun r2 z1 h => ?_) o z1 h)
    refine tq_s_i2l (by decide +kernel) ?_
    refine tq_g_last (by decide +kernel) sh_87 vi_0_1 (fun z3 ez3 => ?_)
    replace h := h z3 ez3
    refine tq_s_goto (off := 6) (tgt := 14) (by decide +kernel) (by decide +kernel) ?_
    refine tq_k_ic (n := 0) (v := (0 : Int32)) (by decide +kernel) kc_0 ?_
    exact tq_ret_i (st := []) (by decide +kernel) rfl h
  · refine Or.inr ⟨5, "java/util/NoSuchElementException", 11, rfl, rfl, hx_L_flips_0, 2, by decide, Or.inl ⟨2, rfl, (by decide +kernel), ?_⟩⟩
    refine tq_k_ic (n := 1) (v := (1 : Int32)) (by decide +kernel) kc_1 ?_
    exact tq_ret_i (st := []) (by decide +kernel) rfl h
def wm_L_other (a1 : Int32) (a2 : Int32) (z : tq_S) (Q : tq_O → tq_S → Prop) : Prop := wm_X11_other a1 a2 z (fun o z1 => tq_wi (fun r2 z1 => ∀ z3 : tq_S, z3 = tq_sal z1 87 (vp_updL (tq_al z1 87) (Int32.toNatClampNeg (0 : Int32)) (Int32.toInt64 r2)) → Q (.inl (some (.int (0 : Int32)))) z3) o z1 ∨ (o = .inr 3 ∧ Q (.inl (some (.int (1 : Int32)))) z1) ∨ (o = .inr 5 ∧ Q (.inl (some (.int (2 : Int32)))) z1))
theorem am_L_other {K : Nat × (Nat → Int32)} {x : Nat} {a1 : Int32} {a2 : Int32} {z : tq_S} {Q : tq_O → tq_S → Prop} (h : wm_L_other a1 a2 z Q) : tq_M K 3 (x + 1) mm_L_other [.ref 0, .int a1, .int a2, .ref 87] z Q := by
  unfold wm_L_other at h
  refine tq_enterH (L := [.ref 0, .int a1, .int a2, .ref 87, .null]) mf_L_other.1 (by decide +kernel) rfl rfl (Nat.le_of_ble_eq_true rfl) ?_
  refine tq_s_aload_n (kk := 3) (by decide +kernel) rfl ?_
  refine tq_k_ic (n := 0) (v := (0 : Int32)) (by decide +kernel) kc_0 ?_
  refine tq_s_aload_n (kk := 0) (by decide +kernel) rfl ?_
  refine tq_s_iload_n (kk := 1) (by decide +kernel) rfl ?_
  refine tq_s_iload_n (kk := 2) (by decide +kernel) rfl ?_
  refine tq_callVX (as := [.int a1, .int a2]) (st := [.int (0 : Int32), .ref 87]) (d1 := 2) (x1 := 1) (x2 := x) (by decide +kernel) ln_13_65 mf_X11_other rfl sh_0 rfl (by decide) np_X11_other rfl (Nat.le_of_ble_eq_true rfl) (by decide) (Nat.add_comm _ _) (tq_M_mono (am_X11_other h) ?_)
  intro o z1 h
  rcases h with h | ⟨rfl, h⟩ | ⟨rfl, h⟩
  · refine Or.inl (tq_wi_e (fun r2 z1 h => ?_) o z1 h)
    refine tq_s_i2l (by decide +kernel) ?_
    refine tq_g_last (by decide +kernel) sh_87 vi_0_1 (fun z3 ez3 => ?_)
    replace h := h z3 ez3
    refine tq_s_goto (off := 11) (tgt := 21) (by decide +kernel) (by decide +kernel) ?_
    refine tq_k_ic (n := 0) (v := (0 : Int32)) (by decide +kernel) kc_0 ?_
    exact tq_ret_i (st := []) (by decide +kernel) rfl h
  · refine Or.inr ⟨3, "java/lang/IndexOutOfBoundsException", 13, rfl, rfl, hx_L_other_0, 4, by decide, Or.inr ⟨(by decide +kernel), ?_⟩⟩
    refine tq_k_ic (n := 1) (v := (1 : Int32)) (by decide +kernel) kc_1 ?_
    exact tq_ret_i (st := []) (by decide +kernel) rfl h
  · refine Or.inr ⟨5, "java/util/NoSuchElementException", 17, rfl, rfl, hx_L_other_1, 4, by decide, Or.inr ⟨(by decide +kernel), ?_⟩⟩
    refine tq_k_ic (n := 2) (v := (2 : Int32)) (by decide +kernel) kc_2 ?_
    exact tq_ret_i (st := []) (by decide +kernel) rfl h
def wm_L_number  (z : tq_S) (Q : tq_O → tq_S → Prop) : Prop := wm_X11_number z (fun o z1 => tq_wi (fun r2 z1 => ∀ z3 : tq_S, z3 = tq_sal z1 87 (vp_updL (tq_al z1 87) (Int32.toNatClampNeg (0 : Int32)) (Int32.toInt64 r2)) → Q (.inl (some (.int (0 : Int32)))) z3) o z1 ∨ (o = .inr 5 ∧ Q (.inl (some (.int (1 : Int32)))) z1))
theorem am_L_number {K : Nat × (Nat → Int32)} {x : Nat}  {z : tq_S} {Q : tq_O → tq_S → Prop} (h : wm_L_number z Q) : tq_M K 5 (x + 1) mm_L_number [.ref 0, .ref 87] z Q := by
  unfold wm_L_number at h
  refine tq_enterH (L := [.ref 0, .ref 87, .null]) mf_L_number.1 (by decide +kernel) rfl rfl (Nat.le_of_ble_eq_true rfl) ?_
  refine tq_s_aload_n (kk := 1) (by decide +kernel) rfl ?_
  refine tq_k_ic (n := 0) (v := (0 : Int32)) (by decide +kernel) kc_0 ?_
  refine tq_s_aload_n (kk := 0) (by decide +kernel) rfl ?_
  refine tq_callVX (as := []) (st := [.int (0 : Int32), .ref 87]) (d1 := 4) (x1 := 1) (x2 := x) (by decide +kernel) ln_13_62 mf_X11_number rfl sh_0 rfl (by decide) np_X11_number rfl (Nat.le_of_ble_eq_true rfl) (by decide) (Nat.add_comm _ _) (tq_M_mono (am_X11_number h) ?_)
  intro o z1 h
  rcases h with h | ⟨rfl, h⟩
  · refine Or.inl (tq_wi_e (fun r2 z1 h => ?_) o z1 h)
    refine tq_s_i2l (by decide +kernel) ?_
    refine tq_g_last (by decide +kernel) sh_87 vi_0_1 (fun z3 ez3 => ?_)
    replace h := h z3 ez3
    refine tq_s_goto (off := 6) (tgt := 14) (by decide +kernel) (by decide +kernel) ?_
    refine tq_k_ic (n := 0) (v := (0 : Int32)) (by decide +kernel) kc_0 ?_
    exact tq_ret_i (st := []) (by decide +kernel) rfl h
  · refine Or.inr ⟨5, "java/util/NoSuchElementException", 11, rfl, rfl, hx_L_number_0, 2, by decide, Or.inl ⟨2, rfl, (by decide +kernel), ?_⟩⟩
    refine tq_k_ic (n := 1) (v := (1 : Int32)) (by decide +kernel) kc_1 ?_
    exact tq_ret_i (st := []) (by decide +kernel) rfl h
def wm_L_previous  (z : tq_S) (Q : tq_O → tq_S → Prop) : Prop := wm_X11_previous z (fun o z1 => tq_wi (fun r2 z1 => ((r2 = 0 → ∀ z3 : tq_S, z3 = tq_sal z1 87 (vp_updL (tq_al z1 87) (Int32.toNatClampNeg (0 : Int32)) (0 : Int64)) → Q (.inl (some (.int (0 : Int32)))) z3) ∧ (¬ r2 = 0 → ∀ z4 : tq_S, z4 = tq_sal z1 87 (vp_updL (tq_al z1 87) (Int32.toNatClampNeg (0 : Int32)) (1 : Int64)) → Q (.inl (some (.int (0 : Int32)))) z4))) o z1 ∨ (o = .inr 5 ∧ Q (.inl (some (.int (1 : Int32)))) z1))
theorem am_L_previous {K : Nat × (Nat → Int32)} {x : Nat}  {z : tq_S} {Q : tq_O → tq_S → Prop} (h : wm_L_previous z Q) : tq_M K 6 (x + 1) mm_L_previous [.ref 0, .ref 87] z Q := by
  unfold wm_L_previous at h
  refine tq_enterH (L := [.ref 0, .ref 87, .null]) mf_L_previous.1 (by decide +kernel) rfl rfl (Nat.le_of_ble_eq_true rfl) ?_
  refine tq_s_aload_n (kk := 1) (by decide +kernel) rfl ?_
  refine tq_k_ic (n := 0) (v := (0 : Int32)) (by decide +kernel) kc_0 ?_
  refine tq_s_aload_n (kk := 0) (by decide +kernel) rfl ?_
  refine tq_callVX (as := []) (st := [.int (0 : Int32), .ref 87]) (d1 := 5) (x1 := 1) (x2 := x) (by decide +kernel) ln_13_59 mf_X11_previous rfl sh_0 rfl (by decide) np_X11_previous rfl (Nat.le_of_ble_eq_true rfl) (by decide) (Nat.add_comm _ _) (tq_M_mono (am_X11_previous h) ?_)
  intro o z1 h
  rcases h with h | ⟨rfl, h⟩
  · refine Or.inl (tq_wi_e (fun r2 z1 h => ?_) o z1 h)
    refine tq_if_eq (off := 7) (tgt := 13) (by decide +kernel) (by decide +kernel) (fun hc => ?_) (fun hc => ?_)
    · replace h := h.1 hc
      refine tq_k_lc (n := 0) (v := (0 : Int64)) (by decide +kernel) (by decide +kernel) ?_
      refine tq_g_last (by decide +kernel) sh_87 vi_0_1 (fun z3 ez3 => ?_)
      replace h := h z3 ez3
      refine tq_s_goto (off := 6) (tgt := 21) (by decide +kernel) (by decide +kernel) ?_
      refine tq_k_ic (n := 0) (v := (0 : Int32)) (by decide +kernel) kc_0 ?_
      exact tq_ret_i (st := []) (by decide +kernel) rfl h
    · replace h := h.2 hc
      refine tq_k_lc (n := 1) (v := (1 : Int64)) (by decide +kernel) (by decide +kernel) ?_
      refine tq_s_goto (off := 4) (tgt := 14) (by decide +kernel) (by decide +kernel) ?_
      refine tq_g_last (by decide +kernel) sh_87 vi_0_1 (fun z4 ez4 => ?_)
      replace h := h z4 ez4
      refine tq_s_goto (off := 6) (tgt := 21) (by decide +kernel) (by decide +kernel) ?_
      refine tq_k_ic (n := 0) (v := (0 : Int32)) (by decide +kernel) kc_0 ?_
      exact tq_ret_i (st := []) (by decide +kernel) rfl h
  · refine Or.inr ⟨5, "java/util/NoSuchElementException", 18, rfl, rfl, hx_L_previous_0, 2, by decide, Or.inl ⟨2, rfl, (by decide +kernel), ?_⟩⟩
    refine tq_k_ic (n := 1) (v := (1 : Int32)) (by decide +kernel) kc_1 ?_
    exact tq_ret_i (st := []) (by decide +kernel) rfl h
def wm_L_next  (z : tq_S) (Q : tq_O → tq_S → Prop) : Prop := wm_X11_next z (fun o z1 => tq_wi (fun r2 z1 => ((r2 = 0 → ∀ z3 : tq_S, z3 = tq_sal z1 87 (vp_updL (tq_al z1 87) (Int32.toNatClampNeg (0 : Int32)) (0 : Int64)) → Q (.inl (some (.int (0 : Int32)))) z3) ∧ (¬ r2 = 0 → ∀ z4 : tq_S, z4 = tq_sal z1 87 (vp_updL (tq_al z1 87) (Int32.toNatClampNeg (0 : Int32)) (1 : Int64)) → Q (.inl (some (.int (0 : Int32)))) z4))) o z1 ∨ (o = .inr 5 ∧ Q (.inl (some (.int (1 : Int32)))) z1))
theorem am_L_next {K : Nat × (Nat → Int32)} {x : Nat}  {z : tq_S} {Q : tq_O → tq_S → Prop} (h : wm_L_next z Q) : tq_M K 6 (x + 1) mm_L_next [.ref 0, .ref 87] z Q := by
  unfold wm_L_next at h
  refine tq_enterH (L := [.ref 0, .ref 87, .null]) mf_L_next.1 (by decide +kernel) rfl rfl (Nat.le_of_ble_eq_true rfl) ?_
  refine tq_s_aload_n (kk := 1) (by decide +kernel) rfl ?_
  refine tq_k_ic (n := 0) (v := (0 : Int32)) (by decide +kernel) kc_0 ?_
  refine tq_s_aload_n (kk := 0) (by decide +kernel) rfl ?_
  refine tq_callVX (as := []) (st := [.int (0 : Int32), .ref 87]) (d1 := 5) (x1 := 1) (x2 := x) (by decide +kernel) ln_13_55 mf_X11_next rfl sh_0 rfl (by decide) np_X11_next rfl (Nat.le_of_ble_eq_true rfl) (by decide) (Nat.add_comm _ _) (tq_M_mono (am_X11_next h) ?_)
  intro o z1 h
  rcases h with h | ⟨rfl, h⟩
  · refine Or.inl (tq_wi_e (fun r2 z1 h => ?_) o z1 h)
    refine tq_if_eq (off := 7) (tgt := 13) (by decide +kernel) (by decide +kernel) (fun hc => ?_) (fun hc => ?_)
    · replace h := h.1 hc
      refine tq_k_lc (n := 0) (v := (0 : Int64)) (by decide +kernel) (by decide +kernel) ?_
      refine tq_g_last (by decide +kernel) sh_87 vi_0_1 (fun z3 ez3 => ?_)
      replace h := h z3 ez3
      refine tq_s_goto (off := 6) (tgt := 21) (by decide +kernel) (by decide +kernel) ?_
      refine tq_k_ic (n := 0) (v := (0 : Int32)) (by decide +kernel) kc_0 ?_
      exact tq_ret_i (st := []) (by decide +kernel) rfl h
    · replace h := h.2 hc
      refine tq_k_lc (n := 1) (v := (1 : Int64)) (by decide +kernel) (by decide +kernel) ?_
      refine tq_s_goto (off := 4) (tgt := 14) (by decide +kernel) (by decide +kernel) ?_
      refine tq_g_last (by decide +kernel) sh_87 vi_0_1 (fun z4 ez4 => ?_)
      replace h := h z4 ez4
      refine tq_s_goto (off := 6) (tgt := 21) (by decide +kernel) (by decide +kernel) ?_
      refine tq_k_ic (n := 0) (v := (0 : Int32)) (by decide +kernel) kc_0 ?_
      exact tq_ret_i (st := []) (by decide +kernel) rfl h
  · refine Or.inr ⟨5, "java/util/NoSuchElementException", 18, rfl, rfl, hx_L_next_0, 2, by decide, Or.inl ⟨2, rfl, (by decide +kernel), ?_⟩⟩
    refine tq_k_ic (n := 1) (v := (1 : Int32)) (by decide +kernel) kc_1 ?_
    exact tq_ret_i (st := []) (by decide +kernel) rfl h
def wm_L_draw (a1 : Int64) (z : tq_S) (Q : tq_O → tq_S → Prop) : Prop := wm_X11_draw a1 z (fun o z1 => tq_wi (fun r2 z1 => ∀ z3 : tq_S, z3 = tq_sal z1 87 (vp_updL (tq_al z1 87) (Int32.toNatClampNeg (0 : Int32)) (Int32.toInt64 r2)) → Q (.inl (some (.int (0 : Int32)))) z3) o z1 ∨ (o = .inr 5 ∧ Q (.inl (some (.int (1 : Int32)))) z1))
theorem am_L_draw {K : Nat × (Nat → Int32)} {x : Nat} {a1 : Int64} {z : tq_S} {Q : tq_O → tq_S → Prop} (h : wm_L_draw a1 z Q) : tq_M K 6 (x + 1) mm_L_draw [.ref 0, .long a1, .ref 87] z Q := by
  unfold wm_L_draw at h
  refine tq_enterH (L := [.ref 0, .long a1, .null, .ref 87, .null]) mf_L_draw.1 (by decide +kernel) rfl rfl (Nat.le_of_ble_eq_true rfl) ?_
  refine tq_s_aload_n (kk := 3) (by decide +kernel) rfl ?_
  refine tq_k_ic (n := 0) (v := (0 : Int32)) (by decide +kernel) kc_0 ?_
  refine tq_s_aload_n (kk := 0) (by decide +kernel) rfl ?_
  refine tq_s_lload_n (kk := 1) (by decide +kernel) rfl ?_
  refine tq_callVX (as := [.long a1]) (st := [.int (0 : Int32), .ref 87]) (d1 := 5) (x1 := 1) (x2 := x) (by decide +kernel) ln_13_49 mf_X11_draw rfl sh_0 rfl (by decide) np_X11_draw rfl (Nat.le_of_ble_eq_true rfl) (by decide) (Nat.add_comm _ _) (tq_M_mono (am_X11_draw h) ?_)
  intro o z1 h
  rcases h with h | ⟨rfl, h⟩
  · refine Or.inl (tq_wi_e (fun r2 z1 h => ?_) o z1 h)
    refine tq_s_i2l (by decide +kernel) ?_
    refine tq_g_last (by decide +kernel) sh_87 vi_0_1 (fun z3 ez3 => ?_)
    replace h := h z3 ez3
    refine tq_s_goto (off := 7) (tgt := 16) (by decide +kernel) (by decide +kernel) ?_
    refine tq_k_ic (n := 0) (v := (0 : Int32)) (by decide +kernel) kc_0 ?_
    exact tq_ret_i (st := []) (by decide +kernel) rfl h
  · refine Or.inr ⟨5, "java/util/NoSuchElementException", 12, rfl, rfl, hx_L_draw_0, 4, by decide, Or.inr ⟨(by decide +kernel), ?_⟩⟩
    refine tq_k_ic (n := 1) (v := (1 : Int32)) (by decide +kernel) kc_1 ?_
    exact tq_ret_i (st := []) (by decide +kernel) rfl h
def wm_L_signAt (a1 : Int32) (z : tq_S) (Q : tq_O → tq_S → Prop) : Prop := wm_X11_signAt a1 z (fun o z1 => tq_wi (fun r2 z1 => ∀ z3 : tq_S, z3 = tq_sal z1 87 (vp_updL (tq_al z1 87) (Int32.toNatClampNeg (0 : Int32)) (Int32.toInt64 r2)) → Q (.inl (some (.int (0 : Int32)))) z3) o z1 ∨ (o = .inr 3 ∧ Q (.inl (some (.int (1 : Int32)))) z1))
theorem am_L_signAt {K : Nat × (Nat → Int32)} {x : Nat} {a1 : Int32} {z : tq_S} {Q : tq_O → tq_S → Prop} (h : wm_L_signAt a1 z Q) : tq_M K 1 (x + 1) mm_L_signAt [.ref 0, .int a1, .ref 87] z Q := by
  unfold wm_L_signAt at h
  refine tq_enterH (L := [.ref 0, .int a1, .ref 87, .null]) mf_L_signAt.1 (by decide +kernel) rfl rfl (Nat.le_of_ble_eq_true rfl) ?_
  refine tq_s_aload_n (kk := 2) (by decide +kernel) rfl ?_
  refine tq_k_ic (n := 0) (v := (0 : Int32)) (by decide +kernel) kc_0 ?_
  refine tq_s_aload_n (kk := 0) (by decide +kernel) rfl ?_
  refine tq_s_iload_n (kk := 1) (by decide +kernel) rfl ?_
  refine tq_callVX (as := [.int a1]) (st := [.int (0 : Int32), .ref 87]) (d1 := 0) (x1 := 1) (x2 := x) (by decide +kernel) ln_13_45 mf_X11_signAt rfl sh_0 rfl (by decide) np_X11_signAt rfl (Nat.le_of_ble_eq_true rfl) (by decide) (Nat.add_comm _ _) (tq_M_mono (am_X11_signAt h) ?_)
  intro o z1 h
  rcases h with h | ⟨rfl, h⟩
  · refine Or.inl (tq_wi_e (fun r2 z1 h => ?_) o z1 h)
    refine tq_s_i2l (by decide +kernel) ?_
    refine tq_g_last (by decide +kernel) sh_87 vi_0_1 (fun z3 ez3 => ?_)
    replace h := h z3 ez3
    refine tq_s_goto (off := 6) (tgt := 15) (by decide +kernel) (by decide +kernel) ?_
    refine tq_k_ic (n := 0) (v := (0 : Int32)) (by decide +kernel) kc_0 ?_
    exact tq_ret_i (st := []) (by decide +kernel) rfl h
  · refine Or.inr ⟨3, "java/lang/IndexOutOfBoundsException", 12, rfl, rfl, hx_L_signAt_0, 3, by decide, Or.inl ⟨3, rfl, (by decide +kernel), ?_⟩⟩
    refine tq_k_ic (n := 1) (v := (1 : Int32)) (by decide +kernel) kc_1 ?_
    exact tq_ret_i (st := []) (by decide +kernel) rfl h
def wm_L_having (a1 : Int32) (a2 : Int32) (a3 : Int32) (z : tq_S) (Q : tq_O → tq_S → Prop) : Prop := wm_X11_having a1 a2 a3 z (fun o z1 => tq_wi (fun r2 z1 => ∀ z3 : tq_S, z3 = tq_sal z1 87 (vp_updL (tq_al z1 87) (Int32.toNatClampNeg (0 : Int32)) (Int32.toInt64 r2)) → Q (.inl (some (.int (0 : Int32)))) z3) o z1 ∨ (o = .inr 3 ∧ Q (.inl (some (.int (1 : Int32)))) z1))
theorem am_L_having {K : Nat × (Nat → Int32)} {x : Nat} {a1 : Int32} {a2 : Int32} {a3 : Int32} {z : tq_S} {Q : tq_O → tq_S → Prop} (h : wm_L_having a1 a2 a3 z Q) : tq_M K 6 (x + 1) mm_L_having [.ref 0, .int a1, .int a2, .int a3, .ref 87] z Q := by
  unfold wm_L_having at h
  refine tq_enterH (L := [.ref 0, .int a1, .int a2, .int a3, .ref 87, .null]) mf_L_having.1 (by decide +kernel) rfl rfl (Nat.le_of_ble_eq_true rfl) ?_
  refine tq_s_aload (i := 4) (by decide +kernel) rfl ?_
  refine tq_k_ic (n := 0) (v := (0 : Int32)) (by decide +kernel) kc_0 ?_
  refine tq_s_aload_n (kk := 0) (by decide +kernel) rfl ?_
  refine tq_s_iload_n (kk := 1) (by decide +kernel) rfl ?_
  refine tq_s_iload_n (kk := 2) (by decide +kernel) rfl ?_
  refine tq_s_iload_n (kk := 3) (by decide +kernel) rfl ?_
  refine tq_callVX (as := [.int a1, .int a2, .int a3]) (st := [.int (0 : Int32), .ref 87]) (d1 := 5) (x1 := 1) (x2 := x) (by decide +kernel) ln_13_41 mf_X11_having rfl sh_0 rfl (by decide) np_X11_having rfl (Nat.le_of_ble_eq_true rfl) (by decide) (Nat.add_comm _ _) (tq_M_mono (am_X11_having h) ?_)
  intro o z1 h
  rcases h with h | ⟨rfl, h⟩
  · refine Or.inl (tq_wi_e (fun r2 z1 h => ?_) o z1 h)
    refine tq_s_i2l (by decide +kernel) ?_
    refine tq_g_last (by decide +kernel) sh_87 vi_0_1 (fun z3 ez3 => ?_)
    replace h := h z3 ez3
    refine tq_s_goto (off := 7) (tgt := 19) (by decide +kernel) (by decide +kernel) ?_
    refine tq_k_ic (n := 0) (v := (0 : Int32)) (by decide +kernel) kc_0 ?_
    exact tq_ret_i (st := []) (by decide +kernel) rfl h
  · refine Or.inr ⟨3, "java/lang/IndexOutOfBoundsException", 15, rfl, rfl, hx_L_having_0, 5, by decide, Or.inr ⟨(by decide +kernel), ?_⟩⟩
    refine tq_k_ic (n := 1) (v := (1 : Int32)) (by decide +kernel) kc_1 ?_
    exact tq_ret_i (st := []) (by decide +kernel) rfl h
def wm_L_bySigns  (z : tq_S) (Q : tq_O → tq_S → Prop) : Prop := wm_X11_bySigns z (fun o z1 => tq_wi (fun r2 z1 => ∀ z3 : tq_S, z3 = tq_sal z1 87 (vp_updL (tq_al z1 87) (Int32.toNatClampNeg (0 : Int32)) (Int32.toInt64 r2)) → Q (.inl (some (.int (0 : Int32)))) z3) o z1 ∨ (o = .inr 4 ∧ Q (.inl (some (.int (1 : Int32)))) z1))
theorem am_L_bySigns {K : Nat × (Nat → Int32)} {x : Nat}  {z : tq_S} {Q : tq_O → tq_S → Prop} (h : wm_L_bySigns z Q) : tq_M K 6 (x + 1) mm_L_bySigns [.ref 0, .ref 87] z Q := by
  unfold wm_L_bySigns at h
  refine tq_enterH (L := [.ref 0, .ref 87, .null]) mf_L_bySigns.1 (by decide +kernel) rfl rfl (Nat.le_of_ble_eq_true rfl) ?_
  refine tq_s_aload_n (kk := 1) (by decide +kernel) rfl ?_
  refine tq_k_ic (n := 0) (v := (0 : Int32)) (by decide +kernel) kc_0 ?_
  refine tq_s_aload_n (kk := 0) (by decide +kernel) rfl ?_
  refine tq_callVX (as := []) (st := [.int (0 : Int32), .ref 87]) (d1 := 5) (x1 := 1) (x2 := x) (by decide +kernel) ln_13_37 mf_X11_bySigns rfl sh_0 rfl (by decide) np_X11_bySigns rfl (Nat.le_of_ble_eq_true rfl) (by decide) (Nat.add_comm _ _) (tq_M_mono (am_X11_bySigns h) ?_)
  intro o z1 h
  rcases h with h | ⟨rfl, h⟩
  · refine Or.inl (tq_wi_e (fun r2 z1 h => ?_) o z1 h)
    refine tq_s_i2l (by decide +kernel) ?_
    refine tq_g_last (by decide +kernel) sh_87 vi_0_1 (fun z3 ez3 => ?_)
    replace h := h z3 ez3
    refine tq_s_goto (off := 6) (tgt := 14) (by decide +kernel) (by decide +kernel) ?_
    refine tq_k_ic (n := 0) (v := (0 : Int32)) (by decide +kernel) kc_0 ?_
    exact tq_ret_i (st := []) (by decide +kernel) rfl h
  · refine Or.inr ⟨4, "java/lang/UnsupportedOperationException", 11, rfl, rfl, hx_L_bySigns_0, 2, by decide, Or.inl ⟨2, rfl, (by decide +kernel), ?_⟩⟩
    refine tq_k_ic (n := 1) (v := (1 : Int32)) (by decide +kernel) kc_1 ?_
    exact tq_ret_i (st := []) (by decide +kernel) rfl h
def wm_L_cells (a1 : Int32) (z : tq_S) (Q : tq_O → tq_S → Prop) : Prop := wm_X11_cells a1 z (fun o z1 => tq_wi (fun r2 z1 => ∀ z3 : tq_S, z3 = tq_sal z1 87 (vp_updL (tq_al z1 87) (Int32.toNatClampNeg (0 : Int32)) (Int32.toInt64 r2)) → Q (.inl (some (.int (0 : Int32)))) z3) o z1 ∨ (o = .inr 1 ∧ Q (.inl (some (.int (1 : Int32)))) z1))
theorem am_L_cells {K : Nat × (Nat → Int32)} {x : Nat} {a1 : Int32} {z : tq_S} {Q : tq_O → tq_S → Prop} (h : wm_L_cells a1 z Q) : tq_M K 3 (x + 1) mm_L_cells [.ref 0, .int a1, .ref 87] z Q := by
  unfold wm_L_cells at h
  refine tq_enterH (L := [.ref 0, .int a1, .ref 87, .null]) mf_L_cells.1 (by decide +kernel) rfl rfl (Nat.le_of_ble_eq_true rfl) ?_
  refine tq_s_aload_n (kk := 2) (by decide +kernel) rfl ?_
  refine tq_k_ic (n := 0) (v := (0 : Int32)) (by decide +kernel) kc_0 ?_
  refine tq_s_aload_n (kk := 0) (by decide +kernel) rfl ?_
  refine tq_s_iload_n (kk := 1) (by decide +kernel) rfl ?_
  refine tq_callVX (as := [.int a1]) (st := [.int (0 : Int32), .ref 87]) (d1 := 2) (x1 := 1) (x2 := x) (by decide +kernel) ln_13_33 mf_X11_cells rfl sh_0 rfl (by decide) np_X11_cells rfl (Nat.le_of_ble_eq_true rfl) (by decide) (Nat.add_comm _ _) (tq_M_mono (am_X11_cells h) ?_)
  intro o z1 h
  rcases h with h | ⟨rfl, h⟩
  · refine Or.inl (tq_wi_e (fun r2 z1 h => ?_) o z1 h)
    refine tq_s_i2l (by decide +kernel) ?_
    refine tq_g_last (by decide +kernel) sh_87 vi_0_1 (fun z3 ez3 => ?_)
    replace h := h z3 ez3
    refine tq_s_goto (off := 6) (tgt := 15) (by decide +kernel) (by decide +kernel) ?_
    refine tq_k_ic (n := 0) (v := (0 : Int32)) (by decide +kernel) kc_0 ?_
    exact tq_ret_i (st := []) (by decide +kernel) rfl h
  · refine Or.inr ⟨1, "java/lang/IllegalArgumentException", 12, rfl, rfl, hx_L_cells_0, 3, by decide, Or.inl ⟨3, rfl, (by decide +kernel), ?_⟩⟩
    refine tq_k_ic (n := 1) (v := (1 : Int32)) (by decide +kernel) kc_1 ?_
    exact tq_ret_i (st := []) (by decide +kernel) rfl h
def wm_L_roll (a1 : Int32) (z : tq_S) (Q : tq_O → tq_S → Prop) : Prop := wm_X11_roll a1 z (fun o z1 => tq_wi (fun r2 z1 => ((r2 = 0 → ∀ z3 : tq_S, z3 = tq_sal z1 87 (vp_updL (tq_al z1 87) (Int32.toNatClampNeg (0 : Int32)) (0 : Int64)) → Q (.inl (some (.int (0 : Int32)))) z3) ∧ (¬ r2 = 0 → ∀ z4 : tq_S, z4 = tq_sal z1 87 (vp_updL (tq_al z1 87) (Int32.toNatClampNeg (0 : Int32)) (1 : Int64)) → Q (.inl (some (.int (0 : Int32)))) z4))) o z1 ∨ (o = .inr 4 ∧ Q (.inl (some (.int (1 : Int32)))) z1))
theorem am_L_roll {K : Nat × (Nat → Int32)} {x : Nat} {a1 : Int32} {z : tq_S} {Q : tq_O → tq_S → Prop} (h : wm_L_roll a1 z Q) : tq_M K 2 (x + 1) mm_L_roll [.ref 0, .int a1, .ref 87] z Q := by
  unfold wm_L_roll at h
  refine tq_enterH (L := [.ref 0, .int a1, .ref 87, .null]) mf_L_roll.1 (by decide +kernel) rfl rfl (Nat.le_of_ble_eq_true rfl) ?_
  refine tq_s_aload_n (kk := 2) (by decide +kernel) rfl ?_
  refine tq_k_ic (n := 0) (v := (0 : Int32)) (by decide +kernel) kc_0 ?_
  refine tq_s_aload_n (kk := 0) (by decide +kernel) rfl ?_
  refine tq_s_iload_n (kk := 1) (by decide +kernel) rfl ?_
  refine tq_callVX (as := [.int a1]) (st := [.int (0 : Int32), .ref 87]) (d1 := 1) (x1 := 1) (x2 := x) (by decide +kernel) ln_13_27 mf_X11_roll rfl sh_0 rfl (by decide) np_X11_roll rfl (Nat.le_of_ble_eq_true rfl) (by decide) (Nat.add_comm _ _) (tq_M_mono (am_X11_roll h) ?_)
  intro o z1 h
  rcases h with h | ⟨rfl, h⟩
  · refine Or.inl (tq_wi_e (fun r2 z1 h => ?_) o z1 h)
    refine tq_if_eq (off := 7) (tgt := 14) (by decide +kernel) (by decide +kernel) (fun hc => ?_) (fun hc => ?_)
    · replace h := h.1 hc
      refine tq_k_lc (n := 0) (v := (0 : Int64)) (by decide +kernel) (by decide +kernel) ?_
      refine tq_g_last (by decide +kernel) sh_87 vi_0_1 (fun z3 ez3 => ?_)
      replace h := h z3 ez3
      refine tq_s_goto (off := 6) (tgt := 22) (by decide +kernel) (by decide +kernel) ?_
      refine tq_k_ic (n := 0) (v := (0 : Int32)) (by decide +kernel) kc_0 ?_
      exact tq_ret_i (st := []) (by decide +kernel) rfl h
    · replace h := h.2 hc
      refine tq_k_lc (n := 1) (v := (1 : Int64)) (by decide +kernel) (by decide +kernel) ?_
      refine tq_s_goto (off := 4) (tgt := 15) (by decide +kernel) (by decide +kernel) ?_
      refine tq_g_last (by decide +kernel) sh_87 vi_0_1 (fun z4 ez4 => ?_)
      replace h := h z4 ez4
      refine tq_s_goto (off := 6) (tgt := 22) (by decide +kernel) (by decide +kernel) ?_
      refine tq_k_ic (n := 0) (v := (0 : Int32)) (by decide +kernel) kc_0 ?_
      exact tq_ret_i (st := []) (by decide +kernel) rfl h
  · refine Or.inr ⟨4, "java/lang/UnsupportedOperationException", 19, rfl, rfl, hx_L_roll_0, 3, by decide, Or.inl ⟨3, rfl, (by decide +kernel), ?_⟩⟩
    refine tq_k_ic (n := 1) (v := (1 : Int32)) (by decide +kernel) kc_1 ?_
    exact tq_ret_i (st := []) (by decide +kernel) rfl h
def wm_L_fill (a1 : Int32) (a2 : Int32) (z : tq_S) (Q : tq_O → tq_S → Prop) : Prop := wm_X11_fill a1 a2 z (fun o z1 => tq_wi (fun r2 z1 => ∀ z3 : tq_S, z3 = tq_sal z1 87 (vp_updL (tq_al z1 87) (Int32.toNatClampNeg (0 : Int32)) (Int32.toInt64 r2)) → Q (.inl (some (.int (0 : Int32)))) z3) o z1 ∨ (o = .inr 3 ∧ Q (.inl (some (.int (1 : Int32)))) z1))
theorem am_L_fill {K : Nat × (Nat → Int32)} {x : Nat} {a1 : Int32} {a2 : Int32} {z : tq_S} {Q : tq_O → tq_S → Prop} (h : wm_L_fill a1 a2 z Q) : tq_M K 3 (x + 1) mm_L_fill [.ref 0, .int a1, .int a2, .ref 87] z Q := by
  unfold wm_L_fill at h
  refine tq_enterH (L := [.ref 0, .int a1, .int a2, .ref 87, .null]) mf_L_fill.1 (by decide +kernel) rfl rfl (Nat.le_of_ble_eq_true rfl) ?_
  refine tq_s_aload_n (kk := 3) (by decide +kernel) rfl ?_
  refine tq_k_ic (n := 0) (v := (0 : Int32)) (by decide +kernel) kc_0 ?_
  refine tq_s_aload_n (kk := 0) (by decide +kernel) rfl ?_
  refine tq_s_iload_n (kk := 1) (by decide +kernel) rfl ?_
  refine tq_s_iload_n (kk := 2) (by decide +kernel) rfl ?_
  refine tq_callVX (as := [.int a1, .int a2]) (st := [.int (0 : Int32), .ref 87]) (d1 := 2) (x1 := 1) (x2 := x) (by decide +kernel) ln_13_24 mf_X11_fill rfl sh_0 rfl (by decide) np_X11_fill rfl (Nat.le_of_ble_eq_true rfl) (by decide) (Nat.add_comm _ _) (tq_M_mono (am_X11_fill h) ?_)
  intro o z1 h
  rcases h with h | ⟨rfl, h⟩
  · refine Or.inl (tq_wi_e (fun r2 z1 h => ?_) o z1 h)
    refine tq_s_i2l (by decide +kernel) ?_
    refine tq_g_last (by decide +kernel) sh_87 vi_0_1 (fun z3 ez3 => ?_)
    replace h := h z3 ez3
    refine tq_s_goto (off := 7) (tgt := 17) (by decide +kernel) (by decide +kernel) ?_
    refine tq_k_ic (n := 0) (v := (0 : Int32)) (by decide +kernel) kc_0 ?_
    exact tq_ret_i (st := []) (by decide +kernel) rfl h
  · refine Or.inr ⟨3, "java/lang/IndexOutOfBoundsException", 13, rfl, rfl, hx_L_fill_0, 4, by decide, Or.inr ⟨(by decide +kernel), ?_⟩⟩
    refine tq_k_ic (n := 1) (v := (1 : Int32)) (by decide +kernel) kc_1 ?_
    exact tq_ret_i (st := []) (by decide +kernel) rfl h
def wm_L_cut (a1 : Int32) (a2 : Int32) (z : tq_S) (Q : tq_O → tq_S → Prop) : Prop := wm_X11_cut a1 a2 z (fun o z1 => tq_wi (fun r2 z1 => ∀ z3 : tq_S, z3 = tq_sal z1 87 (vp_updL (tq_al z1 87) (Int32.toNatClampNeg (0 : Int32)) (Int32.toInt64 r2)) → Q (.inl (some (.int (0 : Int32)))) z3) o z1 ∨ (o = .inr 3 ∧ Q (.inl (some (.int (1 : Int32)))) z1))
theorem am_L_cut {K : Nat × (Nat → Int32)} {x : Nat} {a1 : Int32} {a2 : Int32} {z : tq_S} {Q : tq_O → tq_S → Prop} (h : wm_L_cut a1 a2 z Q) : tq_M K 3 (x + 1) mm_L_cut [.ref 0, .int a1, .int a2, .ref 87] z Q := by
  unfold wm_L_cut at h
  refine tq_enterH (L := [.ref 0, .int a1, .int a2, .ref 87, .null]) mf_L_cut.1 (by decide +kernel) rfl rfl (Nat.le_of_ble_eq_true rfl) ?_
  refine tq_s_aload_n (kk := 3) (by decide +kernel) rfl ?_
  refine tq_k_ic (n := 0) (v := (0 : Int32)) (by decide +kernel) kc_0 ?_
  refine tq_s_aload_n (kk := 0) (by decide +kernel) rfl ?_
  refine tq_s_iload_n (kk := 1) (by decide +kernel) rfl ?_
  refine tq_s_iload_n (kk := 2) (by decide +kernel) rfl ?_
  refine tq_callVX (as := [.int a1, .int a2]) (st := [.int (0 : Int32), .ref 87]) (d1 := 2) (x1 := 1) (x2 := x) (by decide +kernel) ln_13_19 mf_X11_cut rfl sh_0 rfl (by decide) np_X11_cut rfl (Nat.le_of_ble_eq_true rfl) (by decide) (Nat.add_comm _ _) (tq_M_mono (am_X11_cut h) ?_)
  intro o z1 h
  rcases h with h | ⟨rfl, h⟩
  · refine Or.inl (tq_wi_e (fun r2 z1 h => ?_) o z1 h)
    refine tq_s_i2l (by decide +kernel) ?_
    refine tq_g_last (by decide +kernel) sh_87 vi_0_1 (fun z3 ez3 => ?_)
    replace h := h z3 ez3
    refine tq_s_goto (off := 7) (tgt := 17) (by decide +kernel) (by decide +kernel) ?_
    refine tq_k_ic (n := 0) (v := (0 : Int32)) (by decide +kernel) kc_0 ?_
    exact tq_ret_i (st := []) (by decide +kernel) rfl h
  · refine Or.inr ⟨3, "java/lang/IndexOutOfBoundsException", 13, rfl, rfl, hx_L_cut_0, 4, by decide, Or.inr ⟨(by decide +kernel), ?_⟩⟩
    refine tq_k_ic (n := 1) (v := (1 : Int32)) (by decide +kernel) kc_1 ?_
    exact tq_ret_i (st := []) (by decide +kernel) rfl h
def wm_L_form (a1 : Int32) (a2 : Int32) (z : tq_S) (Q : tq_O → tq_S → Prop) : Prop := wm_X11_form a1 a2 z (fun o z1 => tq_wi (fun r2 z1 => ∀ z3 : tq_S, z3 = tq_sal z1 87 (vp_updL (tq_al z1 87) (Int32.toNatClampNeg (0 : Int32)) (Int32.toInt64 r2)) → Q (.inl (some (.int (0 : Int32)))) z3) o z1 ∨ (o = .inr 1 ∧ Q (.inl (some (.int (1 : Int32)))) z1))
theorem am_L_form {K : Nat × (Nat → Int32)} {x : Nat} {a1 : Int32} {a2 : Int32} {z : tq_S} {Q : tq_O → tq_S → Prop} (h : wm_L_form a1 a2 z Q) : tq_M K 4 (x + 1) mm_L_form [.ref 0, .int a1, .int a2, .ref 87] z Q := by
  unfold wm_L_form at h
  refine tq_enterH (L := [.ref 0, .int a1, .int a2, .ref 87, .null]) mf_L_form.1 (by decide +kernel) rfl rfl (Nat.le_of_ble_eq_true rfl) ?_
  refine tq_s_aload_n (kk := 3) (by decide +kernel) rfl ?_
  refine tq_k_ic (n := 0) (v := (0 : Int32)) (by decide +kernel) kc_0 ?_
  refine tq_s_aload_n (kk := 0) (by decide +kernel) rfl ?_
  refine tq_s_iload_n (kk := 1) (by decide +kernel) rfl ?_
  refine tq_s_iload_n (kk := 2) (by decide +kernel) rfl ?_
  refine tq_callVX (as := [.int a1, .int a2]) (st := [.int (0 : Int32), .ref 87]) (d1 := 3) (x1 := 1) (x2 := x) (by decide +kernel) ln_13_15 mf_X11_form rfl sh_0 rfl (by decide) np_X11_form rfl (Nat.le_of_ble_eq_true rfl) (by decide) (Nat.add_comm _ _) (tq_M_mono (am_X11_form h) ?_)
  intro o z1 h
  rcases h with h | ⟨rfl, h⟩
  · refine Or.inl (tq_wi_e (fun r2 z1 h => ?_) o z1 h)
    refine tq_s_i2l (by decide +kernel) ?_
    refine tq_g_last (by decide +kernel) sh_87 vi_0_1 (fun z3 ez3 => ?_)
    replace h := h z3 ez3
    refine tq_s_goto (off := 7) (tgt := 17) (by decide +kernel) (by decide +kernel) ?_
    refine tq_k_ic (n := 0) (v := (0 : Int32)) (by decide +kernel) kc_0 ?_
    exact tq_ret_i (st := []) (by decide +kernel) rfl h
  · refine Or.inr ⟨1, "java/lang/IllegalArgumentException", 13, rfl, rfl, hx_L_form_0, 4, by decide, Or.inr ⟨(by decide +kernel), ?_⟩⟩
    refine tq_k_ic (n := 1) (v := (1 : Int32)) (by decide +kernel) kc_1 ?_
    exact tq_ret_i (st := []) (by decide +kernel) rfl h
def wm_L_board (a1 : Int32) (a2 : Int32) (z : tq_S) (Q : tq_O → tq_S → Prop) : Prop := wm_X11_board a1 a2 z (fun o z1 => tq_wi (fun r2 z1 => ∀ z3 : tq_S, z3 = tq_sal z1 87 (vp_updL (tq_al z1 87) (Int32.toNatClampNeg (0 : Int32)) (Int32.toInt64 r2)) → Q (.inl (some (.int (0 : Int32)))) z3) o z1 ∨ (o = .inr 1 ∧ Q (.inl (some (.int (1 : Int32)))) z1))
theorem am_L_board {K : Nat × (Nat → Int32)} {x : Nat} {a1 : Int32} {a2 : Int32} {z : tq_S} {Q : tq_O → tq_S → Prop} (h : wm_L_board a1 a2 z Q) : tq_M K 3 (x + 1) mm_L_board [.ref 0, .int a1, .int a2, .ref 87] z Q := by
  unfold wm_L_board at h
  refine tq_enterH (L := [.ref 0, .int a1, .int a2, .ref 87, .null]) mf_L_board.1 (by decide +kernel) rfl rfl (Nat.le_of_ble_eq_true rfl) ?_
  refine tq_s_aload_n (kk := 3) (by decide +kernel) rfl ?_
  refine tq_k_ic (n := 0) (v := (0 : Int32)) (by decide +kernel) kc_0 ?_
  refine tq_s_aload_n (kk := 0) (by decide +kernel) rfl ?_
  refine tq_s_iload_n (kk := 1) (by decide +kernel) rfl ?_
  refine tq_s_iload_n (kk := 2) (by decide +kernel) rfl ?_
  refine tq_callVX (as := [.int a1, .int a2]) (st := [.int (0 : Int32), .ref 87]) (d1 := 2) (x1 := 1) (x2 := x) (by decide +kernel) ln_13_7 mf_X11_board rfl sh_0 rfl (by decide) np_X11_board rfl (Nat.le_of_ble_eq_true rfl) (by decide) (Nat.add_comm _ _) (tq_M_mono (am_X11_board h) ?_)
  intro o z1 h
  rcases h with h | ⟨rfl, h⟩
  · refine Or.inl (tq_wi_e (fun r2 z1 h => ?_) o z1 h)
    refine tq_s_i2l (by decide +kernel) ?_
    refine tq_g_last (by decide +kernel) sh_87 vi_0_1 (fun z3 ez3 => ?_)
    replace h := h z3 ez3
    refine tq_s_goto (off := 7) (tgt := 17) (by decide +kernel) (by decide +kernel) ?_
    refine tq_k_ic (n := 0) (v := (0 : Int32)) (by decide +kernel) kc_0 ?_
    exact tq_ret_i (st := []) (by decide +kernel) rfl h
  · refine Or.inr ⟨1, "java/lang/IllegalArgumentException", 13, rfl, rfl, hx_L_board_0, 4, by decide, Or.inr ⟨(by decide +kernel), ?_⟩⟩
    refine tq_k_ic (n := 1) (v := (1 : Int32)) (by decide +kernel) kc_1 ?_
    exact tq_ret_i (st := []) (by decide +kernel) rfl h
