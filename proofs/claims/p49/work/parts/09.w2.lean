def wc_law_172 (K : Nat × (Nat → Int32)) (Q : tq_O → tq_S → Prop) (a3 : Int32) (x : Nat) (z : tq_S) : Prop := ((a3 = 0 → Q (.inl (some (.int (0 : Int32)))) z) ∧ (¬ a3 = 0 → ∃ y101 : Nat, x = y101 + 60000 ∧ wm_L_strips z (tq_wi fun r102 z103 => ((r102 = 0 → Q (.inl (some (.int (0 : Int32)))) z103) ∧ (¬ r102 = 0 → wm_L_isSound z103 (tq_wi fun r105 z104 => ((¬ r105 = (1 : Int32) → Q (.inl (some (.int (0 : Int32)))) z104) ∧ (r105 = (1 : Int32) → Q (.inl (some (.int (1 : Int32)))) z104))))))))
theorem ac_law_172 {K : Nat × (Nat → Int32)} {x : Nat} {Q : tq_O → tq_S → Prop} {a3 : Int32} {z : tq_S} (h : wc_law_172 K Q a3 x z) : tq_T K 93 x mm_law 172 [.null, .ref 0, .ref 51, .int a3, .null, .null, .null, .null] [] z Q := by
  unfold wc_law_172 at h
  refine tq_s_iload_n (kk := 3) (by decide +kernel) rfl ?_
  refine tq_if_eq (off := 23) (tgt := 196) (by decide +kernel) (by decide +kernel) (fun hc => ?_) (fun hc => ?_)
  · replace h := h.1 hc
    refine tq_k_ic (n := 0) (v := (0 : Int32)) (by decide +kernel) kc_0 ?_
    exact tq_ret_z (st := []) (ty := .boolean) (by decide +kernel) (by decide +kernel) rfl h
  · replace h := h.2 hc
    refine tq_s_aload_n (kk := 1) (by decide +kernel) rfl ?_
    refine tq_s_aload_n (kk := 2) (by decide +kernel) rfl ?_
    obtain ⟨y101, ey101, h⟩ := h
    refine tq_callS (as := [.ref 0, .ref 51]) (st := []) (d1 := 7) (x1 := 60000) (x2 := y101) (by decide +kernel) ln_13_226 mf_L_strips rfl (by decide) np_L_strips rfl (Nat.le_of_ble_eq_true rfl) (by decide) (ey101.trans (Nat.add_comm _ _)) (tq_M_mono (am_L_strips h) ?_)
    refine tq_wi_e (fun r102 z103 h => ?_)
    refine tq_if_eq (off := 15) (tgt := 196) (by decide +kernel) (by decide +kernel) (fun hc => ?_) (fun hc => ?_)
    · replace h := h.1 hc
      refine tq_k_ic (n := 0) (v := (0 : Int32)) (by decide +kernel) kc_0 ?_
      exact tq_ret_z (st := []) (ty := .boolean) (by decide +kernel) (by decide +kernel) rfl h
    · replace h := h.2 hc
      refine tq_s_aload_n (kk := 1) (by decide +kernel) rfl ?_
      refine tq_callS (as := [.ref 0]) (st := []) (d1 := 92) (x1 := 0) (x2 := y101) (by decide +kernel) ln_13_229 mf_L_isSound rfl (by decide) np_L_isSound rfl (Nat.le_of_ble_eq_true rfl) (by decide) (Nat.zero_add _).symm (tq_M_mono (am_L_isSound h) ?_)
      refine tq_wi_e (fun r105 z104 h => ?_)
      refine tq_k_ic (n := 1) (v := (1 : Int32)) (by decide +kernel) kc_1 ?_
      refine tq_icmp_ne (off := 7) (tgt := 196) (by decide +kernel) (by decide +kernel) (fun hc => ?_) (fun hc => ?_)
      · replace h := h.1 hc
        refine tq_k_ic (n := 0) (v := (0 : Int32)) (by decide +kernel) kc_0 ?_
        exact tq_ret_z (st := []) (ty := .boolean) (by decide +kernel) (by decide +kernel) rfl h
      · replace h := h.2 hc
        refine tq_k_ic (n := 1) (v := (1 : Int32)) (by decide +kernel) kc_1 ?_
        refine tq_s_goto (off := 4) (tgt := 197) (by decide +kernel) (by decide +kernel) ?_
        exact tq_ret_z (st := []) (ty := .boolean) (by decide +kernel) (by decide +kernel) rfl h
def wc_law_131 (K : Nat × (Nat → Int32)) (Q : tq_O → tq_S → Prop) (s0 : Int32) (s1 : Int32) (x : Nat) (z : tq_S) : Prop := ∀ v101 : Int32, v101 = (s1 &&& s0) → wc_law_172 K Q v101 x z
theorem ac_law_131 {K : Nat × (Nat → Int32)} {x : Nat} {Q : tq_O → tq_S → Prop} {s0 : Int32} {s1 : Int32} {z : tq_S} (h : wc_law_131 K Q s0 s1 x z) : tq_T K 93 x mm_law 131 [.null, .ref 0, .ref 51, .null, .null, .null, .null, .null] [.int s0, .int s1] z Q := by
  unfold wc_law_131 at h
  refine tq_s_iand (by decide +kernel) ?_
  refine tq_g_istore_n (kk := 3) (fun v101 => [.null, .ref 0, .ref 51, .int v101, .null, .null, .null, .null]) (by decide +kernel) (by decide) (fun _ => rfl) (fun v101 ev101 => ?_)
  replace h := h v101 ev101
  refine tq_s_goto (off := 39) (tgt := 172) (by decide +kernel) (by decide +kernel) ?_
  exact ac_law_172 h
def wc_law_130 (K : Nat × (Nat → Int32)) (Q : tq_O → tq_S → Prop) (s0 : Int32) (x : Nat) (z : tq_S) : Prop := wc_law_131 K Q (0 : Int32) s0 x z
theorem ac_law_130 {K : Nat × (Nat → Int32)} {x : Nat} {Q : tq_O → tq_S → Prop} {s0 : Int32} {z : tq_S} (h : wc_law_130 K Q s0 x z) : tq_T K 93 x mm_law 130 [.null, .ref 0, .ref 51, .null, .null, .null, .null, .null] [.int s0] z Q := by
  unfold wc_law_130 at h
  refine tq_k_ic (n := 0) (v := (0 : Int32)) (by decide +kernel) kc_0 ?_
  exact ac_law_131 h
def wc_law_170 (K : Nat × (Nat → Int32)) (Q : tq_O → tq_S → Prop) (s0 : Int32) (s1 : Int32) (x : Nat) (z : tq_S) : Prop := ∀ v101 : Int32, v101 = (s1 &&& s0) → wc_law_172 K Q v101 x z
theorem ac_law_170 {K : Nat × (Nat → Int32)} {x : Nat} {Q : tq_O → tq_S → Prop} {s0 : Int32} {s1 : Int32} {z : tq_S} (h : wc_law_170 K Q s0 s1 x z) : tq_T K 93 x mm_law 170 [.null, .ref 0, .ref 51, .null, .null, .null, .null, .null] [.int s0, .int s1] z Q := by
  unfold wc_law_170 at h
  refine tq_s_iand (by decide +kernel) ?_
  refine tq_g_istore_n (kk := 3) (fun v101 => [.null, .ref 0, .ref 51, .int v101, .null, .null, .null, .null]) (by decide +kernel) (by decide) (fun _ => rfl) (fun v101 ev101 => ?_)
  replace h := h v101 ev101
  exact ac_law_172 h
def wc_law_169 (K : Nat × (Nat → Int32)) (Q : tq_O → tq_S → Prop) (s0 : Int32) (x : Nat) (z : tq_S) : Prop := wc_law_170 K Q (0 : Int32) s0 x z
theorem ac_law_169 {K : Nat × (Nat → Int32)} {x : Nat} {Q : tq_O → tq_S → Prop} {s0 : Int32} {z : tq_S} (h : wc_law_169 K Q s0 x z) : tq_T K 93 x mm_law 169 [.null, .ref 0, .ref 51, .null, .null, .null, .null, .null] [.int s0] z Q := by
  unfold wc_law_169 at h
  refine tq_k_ic (n := 0) (v := (0 : Int32)) (by decide +kernel) kc_0 ?_
  exact ac_law_170 h
def wc_law_99 (K : Nat × (Nat → Int32)) (Q : tq_O → tq_S → Prop) (a4 : Int64) (s0 : Int32) (s1 : Int32) (x : Nat) (z : tq_S) : Prop := ∀ v101 : Int32, v101 = (s1 &&& s0) → ((a4 ≤ (0 : Int64) → ∃ y102 : Nat, x = y102 + 1 ∧ wm_L_draw (0 : Int64) z (tq_wi fun r103 z104 => ((¬ r103 = (-900001 : Int32) → wc_law_169 K Q v101 y102 z104) ∧ (r103 = (-900001 : Int32) → ∃ y105 : Nat, y102 = y105 + 1 ∧ wm_L_number z104 (tq_wi fun r106 z107 => ((¬ r106 = (-900001 : Int32) → wc_law_169 K Q v101 y105 z107) ∧ (r106 = (-900001 : Int32) → ∃ y108 : Nat, y105 = y108 + 1 ∧ wm_L_flips z107 (tq_wi fun r109 z110 => ((¬ r109 = (-900001 : Int32) → wc_law_169 K Q v101 y108 z110) ∧ (r109 = (-900001 : Int32) → wc_law_170 K Q (1 : Int32) v101 y108 z110)))))))))) ∧ (¬ a4 ≤ (0 : Int64) → wm_L_free z (tq_wi fun r112 z111 => ((¬ r112 = 0 → wc_law_130 K Q v101 x z111) ∧ (r112 = 0 → ∃ y113 : Nat, x = y113 + 20000 ∧ wm_L_numbered a4 z111 (tq_wi fun r114 z115 => ((r114 = 0 → wc_law_130 K Q v101 y113 z115) ∧ (¬ r114 = 0 → wc_law_131 K Q (1 : Int32) v101 y113 z115))))))))
theorem ac_law_99 {K : Nat × (Nat → Int32)} {x : Nat} {Q : tq_O → tq_S → Prop} {a4 : Int64} {s0 : Int32} {s1 : Int32} {z : tq_S} (h : wc_law_99 K Q a4 s0 s1 x z) : tq_T K 93 x mm_law 99 [.null, .ref 0, .ref 51, .null, .long a4, .null, .null, .null] [.int s0, .int s1] z Q := by
  unfold wc_law_99 at h
  refine tq_s_iand (by decide +kernel) ?_
  refine tq_g_istore_n (kk := 3) (fun v101 => [.null, .ref 0, .ref 51, .int v101, .long a4, .null, .null, .null]) (by decide +kernel) (by decide) (fun _ => rfl) (fun v101 ev101 => ?_)
  replace h := h v101 ev101
  refine tq_s_lload (i := 4) (by decide +kernel) rfl ?_
  refine tq_k_lc (n := 0) (v := (0 : Int64)) (by decide +kernel) (by decide +kernel) ?_
  refine tq_lcmp_le (off := 31) (tgt := 136) (by decide +kernel) (by decide +kernel) (by decide +kernel) (fun hc => ?_) (fun hc => ?_)
  · replace h := h.1 hc
    refine tq_s_iload_n (kk := 3) (by decide +kernel) rfl ?_
    refine tq_s_aload_n (kk := 1) (by decide +kernel) rfl ?_
    refine tq_k_lc (n := 0) (v := (0 : Int64)) (by decide +kernel) (by decide +kernel) ?_
    obtain ⟨y102, ey102, h⟩ := h
    refine tq_callSH (as := [.ref 0, .long (0 : Int64)]) (st := [.int v101]) (d1 := 6) (x1 := 1) (x2 := y102) (by decide +kernel) ln_13_165 mf_L_draw rfl (by decide) np_L_draw rfl (Nat.le_of_ble_eq_true rfl) (by decide) (ey102.trans (Nat.add_comm _ _)) (tq_M_mono (am_L_draw (x := 0) h) ?_)
    refine tq_wi_e (fun r103 z104 h => ?_)
    refine tq_s_ldc (i := 15) (v := (-900001 : Int32)) (by decide +kernel) (by decide +kernel) ?_
    refine tq_icmp_ne (off := 25) (tgt := 169) (by decide +kernel) (by decide +kernel) (fun hc => ?_) (fun hc => ?_)
    · replace h := h.1 hc
      exact tq_to (tq_lk1 (tq_lk1 (tq_lk1 (tq_ld1 (tq_ld1 (tq_lk1 (tq_lk1 (tq_lk1 tq_l0)))))))) (ac_law_169 h)
    · replace h := h.2 hc
      refine tq_s_aload_n (kk := 1) (by decide +kernel) rfl ?_
      obtain ⟨y105, ey105, h⟩ := h
      refine tq_callSH (as := [.ref 0]) (st := [.int v101]) (d1 := 5) (x1 := 1) (x2 := y105) (by decide +kernel) ln_13_168 mf_L_number rfl (by decide) np_L_number rfl (Nat.le_of_ble_eq_true rfl) (by decide) (ey105.trans (Nat.add_comm _ _)) (tq_M_mono (am_L_number (x := 0) h) ?_)
      refine tq_wi_e (fun r106 z107 h => ?_)
      refine tq_s_ldc (i := 15) (v := (-900001 : Int32)) (by decide +kernel) (by decide +kernel) ?_
      refine tq_icmp_ne (off := 16) (tgt := 169) (by decide +kernel) (by decide +kernel) (fun hc => ?_) (fun hc => ?_)
      · replace h := h.1 hc
        exact tq_to (tq_lk1 (tq_lk1 (tq_lk1 (tq_ld1 (tq_ld1 (tq_lk1 (tq_lk1 (tq_lk1 tq_l0)))))))) (ac_law_169 h)
      · replace h := h.2 hc
        refine tq_s_aload_n (kk := 1) (by decide +kernel) rfl ?_
        obtain ⟨y108, ey108, h⟩ := h
        refine tq_callSH (as := [.ref 0]) (st := [.int v101]) (d1 := 5) (x1 := 1) (x2 := y108) (by decide +kernel) ln_13_182 mf_L_flips rfl (by decide) np_L_flips rfl (Nat.le_of_ble_eq_true rfl) (by decide) (ey108.trans (Nat.add_comm _ _)) (tq_M_mono (am_L_flips (x := 0) h) ?_)
        refine tq_wi_e (fun r109 z110 h => ?_)
        refine tq_s_ldc (i := 15) (v := (-900001 : Int32)) (by decide +kernel) (by decide +kernel) ?_
        refine tq_icmp_ne (off := 7) (tgt := 169) (by decide +kernel) (by decide +kernel) (fun hc => ?_) (fun hc => ?_)
        · replace h := h.1 hc
          exact tq_to (tq_lk1 (tq_lk1 (tq_lk1 (tq_ld1 (tq_ld1 (tq_lk1 (tq_lk1 (tq_lk1 tq_l0)))))))) (ac_law_169 h)
        · replace h := h.2 hc
          refine tq_k_ic (n := 1) (v := (1 : Int32)) (by decide +kernel) kc_1 ?_
          refine tq_s_goto (off := 4) (tgt := 170) (by decide +kernel) (by decide +kernel) ?_
          exact tq_to (tq_lk1 (tq_lk1 (tq_lk1 (tq_ld1 (tq_ld1 (tq_lk1 (tq_lk1 (tq_lk1 tq_l0)))))))) (ac_law_170 h)
  · replace h := h.2 hc
    refine tq_s_iload_n (kk := 3) (by decide +kernel) rfl ?_
    refine tq_s_aload_n (kk := 1) (by decide +kernel) rfl ?_
    refine tq_callS (as := [.ref 0]) (st := [.int v101]) (d1 := 6) (x1 := 0) (x2 := x) (by decide +kernel) ln_13_188 mf_L_free rfl (by decide) np_L_free rfl (Nat.le_of_ble_eq_true rfl) (by decide) (Nat.zero_add _).symm (tq_M_mono (am_L_free h) ?_)
    refine tq_wi_e (fun r112 z111 h => ?_)
    refine tq_if_ne (off := 17) (tgt := 130) (by decide +kernel) (by decide +kernel) (fun hc => ?_) (fun hc => ?_)
    · replace h := h.1 hc
      exact tq_to (tq_lk1 (tq_lk1 (tq_lk1 (tq_ld1 (tq_ld1 (tq_lk1 (tq_lk1 (tq_lk1 tq_l0)))))))) (ac_law_130 h)
    · replace h := h.2 hc
      refine tq_s_aload_n (kk := 1) (by decide +kernel) rfl ?_
      refine tq_s_aload_n (kk := 2) (by decide +kernel) rfl ?_
      refine tq_s_lload (i := 4) (by decide +kernel) rfl ?_
      obtain ⟨y113, ey113, h⟩ := h
      refine tq_callS (as := [.ref 0, .ref 51, .long a4]) (st := [.int v101]) (d1 := 7) (x1 := 20000) (x2 := y113) (by decide +kernel) ln_13_222 mf_L_numbered rfl (by decide) np_L_numbered rfl (Nat.le_of_ble_eq_true rfl) (by decide) (ey113.trans (Nat.add_comm _ _)) (tq_M_mono (am_L_numbered h) ?_)
      refine tq_wi_e (fun r114 z115 h => ?_)
      refine tq_if_eq (off := 7) (tgt := 130) (by decide +kernel) (by decide +kernel) (fun hc => ?_) (fun hc => ?_)
      · replace h := h.1 hc
        exact tq_to (tq_lk1 (tq_lk1 (tq_lk1 (tq_ld1 (tq_ld1 (tq_lk1 (tq_lk1 (tq_lk1 tq_l0)))))))) (ac_law_130 h)
      · replace h := h.2 hc
        refine tq_k_ic (n := 1) (v := (1 : Int32)) (by decide +kernel) kc_1 ?_
        refine tq_s_goto (off := 4) (tgt := 131) (by decide +kernel) (by decide +kernel) ?_
        exact tq_to (tq_lk1 (tq_lk1 (tq_lk1 (tq_ld1 (tq_ld1 (tq_lk1 (tq_lk1 (tq_lk1 tq_l0)))))))) (ac_law_131 h)
def wc_law_98 (K : Nat × (Nat → Int32)) (Q : tq_O → tq_S → Prop) (a4 : Int64) (s0 : Int32) (x : Nat) (z : tq_S) : Prop := wc_law_99 K Q a4 (0 : Int32) s0 x z
theorem ac_law_98 {K : Nat × (Nat → Int32)} {x : Nat} {Q : tq_O → tq_S → Prop} {a4 : Int64} {s0 : Int32} {z : tq_S} (h : wc_law_98 K Q a4 s0 x z) : tq_T K 93 x mm_law 98 [.null, .ref 0, .ref 51, .null, .long a4, .null, .null, .null] [.int s0] z Q := by
  unfold wc_law_98 at h
  refine tq_k_ic (n := 0) (v := (0 : Int32)) (by decide +kernel) kc_0 ?_
  exact ac_law_99 h
def wc_law_75 (K : Nat × (Nat → Int32)) (Q : tq_O → tq_S → Prop) (a4 : Int64) (s0 : Int32) (s1 : Int32) (x : Nat) (z : tq_S) : Prop := ∀ v101 : Int32, v101 = (s1 &&& s0) → ∃ y102 : Nat, x = y102 + 300000 ∧ wm_L_counts a4 z (tq_wi fun r103 z104 => ((r103 = 0 → wc_law_98 K Q a4 v101 y102 z104) ∧ (¬ r103 = 0 → ∃ y105 : Nat, y102 = y105 + 10 ∧ wm_L_freed z104 (tq_wi fun r106 z107 => ((r106 = 0 → wc_law_98 K Q a4 v101 y105 z107) ∧ (¬ r106 = 0 → wc_law_99 K Q a4 (1 : Int32) v101 y105 z107))))))
theorem ac_law_75 {K : Nat × (Nat → Int32)} {x : Nat} {Q : tq_O → tq_S → Prop} {a4 : Int64} {s0 : Int32} {s1 : Int32} {z : tq_S} (h : wc_law_75 K Q a4 s0 s1 x z) : tq_T K 93 x mm_law 75 [.null, .ref 0, .ref 51, .null, .long a4, .null, .null, .null] [.int s0, .int s1] z Q := by
  unfold wc_law_75 at h
  refine tq_s_iand (by decide +kernel) ?_
  refine tq_g_istore_n (kk := 3) (fun v101 => [.null, .ref 0, .ref 51, .int v101, .long a4, .null, .null, .null]) (by decide +kernel) (by decide) (fun _ => rfl) (fun v101 ev101 => ?_)
  replace h := h v101 ev101
  refine tq_s_iload_n (kk := 3) (by decide +kernel) rfl ?_
  refine tq_s_aload_n (kk := 1) (by decide +kernel) rfl ?_
  refine tq_s_lload (i := 4) (by decide +kernel) rfl ?_
  obtain ⟨y102, ey102, h⟩ := h
  refine tq_callS (as := [.ref 0, .long a4]) (st := [.int v101]) (d1 := 8) (x1 := 300000) (x2 := y102) (by decide +kernel) ln_13_214 mf_L_counts rfl (by decide) np_L_counts rfl (Nat.le_of_ble_eq_true rfl) (by decide) (ey102.trans (Nat.add_comm _ _)) (tq_M_mono (am_L_counts h) ?_)
  refine tq_wi_e (fun r103 z104 h => ?_)
  refine tq_if_eq (off := 14) (tgt := 98) (by decide +kernel) (by decide +kernel) (fun hc => ?_) (fun hc => ?_)
  · replace h := h.1 hc
    exact tq_to (tq_lk1 (tq_lk1 (tq_lk1 (tq_ld1 (tq_lk1 (tq_lk1 (tq_lk1 (tq_lk1 tq_l0)))))))) (ac_law_98 h)
  · replace h := h.2 hc
    refine tq_s_aload_n (kk := 1) (by decide +kernel) rfl ?_
    obtain ⟨y105, ey105, h⟩ := h
    refine tq_callS (as := [.ref 0]) (st := [.int v101]) (d1 := 7) (x1 := 10) (x2 := y105) (by decide +kernel) ln_13_218 mf_L_freed rfl (by decide) np_L_freed rfl (Nat.le_of_ble_eq_true rfl) (by decide) (ey105.trans (Nat.add_comm _ _)) (tq_M_mono (am_L_freed h) ?_)
    refine tq_wi_e (fun r106 z107 h => ?_)
    refine tq_if_eq (off := 7) (tgt := 98) (by decide +kernel) (by decide +kernel) (fun hc => ?_) (fun hc => ?_)
    · replace h := h.1 hc
      exact tq_to (tq_lk1 (tq_lk1 (tq_lk1 (tq_ld1 (tq_lk1 (tq_lk1 (tq_lk1 (tq_lk1 tq_l0)))))))) (ac_law_98 h)
    · replace h := h.2 hc
      refine tq_k_ic (n := 1) (v := (1 : Int32)) (by decide +kernel) kc_1 ?_
      refine tq_s_goto (off := 4) (tgt := 99) (by decide +kernel) (by decide +kernel) ?_
      exact tq_to (tq_lk1 (tq_lk1 (tq_lk1 (tq_ld1 (tq_lk1 (tq_lk1 (tq_lk1 (tq_lk1 tq_l0)))))))) (ac_law_99 h)
def wc_law_70 (K : Nat × (Nat → Int32)) (Q : tq_O → tq_S → Prop) (a4 : Int64) (s0 : Int32) (x : Nat) (z : tq_S) : Prop := wc_law_75 K Q a4 (1 : Int32) s0 x z
theorem ac_law_70 {K : Nat × (Nat → Int32)} {x : Nat} {Q : tq_O → tq_S → Prop} {a4 : Int64} {s0 : Int32} {z : tq_S} (h : wc_law_70 K Q a4 s0 x z) : tq_T K 93 x mm_law 70 [.null, .ref 0, .ref 51, .null, .long a4, .null, .null, .null] [.int s0] z Q := by
  unfold wc_law_70 at h
  refine tq_k_ic (n := 1) (v := (1 : Int32)) (by decide +kernel) kc_1 ?_
  refine tq_s_goto (off := 4) (tgt := 75) (by decide +kernel) (by decide +kernel) ?_
  exact ac_law_75 h
def wc_law_74 (K : Nat × (Nat → Int32)) (Q : tq_O → tq_S → Prop) (a4 : Int64) (s0 : Int32) (x : Nat) (z : tq_S) : Prop := wc_law_75 K Q a4 (0 : Int32) s0 x z
theorem ac_law_74 {K : Nat × (Nat → Int32)} {x : Nat} {Q : tq_O → tq_S → Prop} {a4 : Int64} {s0 : Int32} {z : tq_S} (h : wc_law_74 K Q a4 s0 x z) : tq_T K 93 x mm_law 74 [.null, .ref 0, .ref 51, .null, .long a4, .null, .null, .null] [.int s0] z Q := by
  unfold wc_law_74 at h
  refine tq_k_ic (n := 0) (v := (0 : Int32)) (by decide +kernel) kc_0 ?_
  exact ac_law_75 h
def wm_law (K : Nat × (Nat → Int32)) (z : tq_S) (Q : tq_O → tq_S → Prop) : Prop := wm_L_fold K z (tq_wi fun r2 z1 => ∀ z3 : tq_S, z3 = tq_sai z1 51 (upd (tq_ai z1 51) (Int32.toNatClampNeg (0 : Int32)) r2) → ∃ y4 : Nat, 450000 = y4 + 40 ∧ wm_L_drawn z3 (tq_wi fun r5 z6 => wm_L_covers z6 (tq_wi fun r8 z7 => ∃ y9 : Nat, y4 = y9 + 400 ∧ wm_L_told r8 z7 (tq_wl fun r10 z11 => ∃ y12 : Nat, y9 = y12 + 1 ∧ wm_L_bySigns z11 (tq_wi fun r13 z14 => ∃ y15 : Nat, y12 = y15 + 400 ∧ wm_L_told r13 z14 (tq_wl fun r16 z17 => ((r10 < (0 : Int64) → wc_law_74 K Q r10 r5 y15 z17) ∧ (¬ r10 < (0 : Int64) → ((r16 = (-900001 : Int64) → wc_law_70 K Q r10 r5 y15 z17) ∧ (¬ r16 = (-900001 : Int64) → ((¬ r16 = r10 → wc_law_74 K Q r10 r5 y15 z17) ∧ (r16 = r10 → wc_law_70 K Q r10 r5 y15 z17))))))))))))
theorem am_law {K : Nat × (Nat → Int32)} {z : tq_S} {Q : tq_O → tq_S → Prop} (h : wm_law K z Q) : tq_T K 93 450000 mm_law 11 [.ref 902, .ref 0, .null, .null, .null, .null, .null, .null] [.ref 51] z Q := by
  unfold wm_law at h
  refine tq_s_dup (by decide +kernel) rfl ?_
  refine tq_k_ic (n := 0) (v := (0 : Int32)) (by decide +kernel) kc_0 ?_
  refine tq_s_aload_n (kk := 0) (by decide +kernel) rfl ?_
  refine tq_callS (as := [.ref 902]) (st := [.int (0 : Int32), .ref 51, .ref 51]) (d1 := 0) (x1 := 0) (x2 := 450000) (by decide +kernel) ln_13_202 mf_L_fold rfl (by decide) np_L_fold rfl (Nat.le_of_ble_eq_true rfl) (by decide) (Nat.zero_add _).symm (tq_M_mono (am_L_fold h) ?_)
  refine tq_wi_e (fun r2 z1 h => ?_)
  refine tq_g_iast (by decide +kernel) sh_51 vi_0_1 (fun z3 ez3 => ?_)
  replace h := h z3 ez3
  refine tq_s_astore_n (kk := 2) (L9 := [.ref 902, .ref 0, .ref 51, .null, .null, .null, .null, .null]) (by decide +kernel) (by decide) rfl ?_
  refine tq_s_aload_n (kk := 1) (by decide +kernel) rfl ?_
  refine tq_s_aload_n (kk := 2) (by decide +kernel) rfl ?_
  obtain ⟨y4, ey4, h⟩ := h
  refine tq_callS (as := [.ref 0, .ref 51]) (st := []) (d1 := 5) (x1 := 40) (x2 := y4) (by decide +kernel) ln_13_206 mf_L_drawn rfl (by decide) np_L_drawn rfl (Nat.le_of_ble_eq_true rfl) (by decide) (ey4.trans (Nat.add_comm _ _)) (tq_M_mono (am_L_drawn h) ?_)
  refine tq_wi_e (fun r5 z6 h => ?_)
  refine tq_s_istore_n (kk := 3) (L9 := [.ref 902, .ref 0, .ref 51, .int r5, .null, .null, .null, .null]) (by decide +kernel) (by decide) rfl ?_
  refine tq_s_aload_n (kk := 1) (by decide +kernel) rfl ?_
  refine tq_s_aload_n (kk := 1) (by decide +kernel) rfl ?_
  refine tq_callS (as := [.ref 0]) (st := [.ref 0]) (d1 := 5) (x1 := 0) (x2 := y4) (by decide +kernel) ln_13_210 mf_L_covers rfl (by decide) np_L_covers rfl (Nat.le_of_ble_eq_true rfl) (by decide) (Nat.zero_add _).symm (tq_M_mono (am_L_covers h) ?_)
  refine tq_wi_e (fun r8 z7 h => ?_)
  obtain ⟨y9, ey9, h⟩ := h
  refine tq_callS (as := [.ref 0, .int r8]) (st := []) (d1 := 2) (x1 := 400) (x2 := y9) (by decide +kernel) ln_13_151 mf_L_told rfl (by decide) np_L_told rfl (Nat.le_of_ble_eq_true rfl) (by decide) (ey9.trans (Nat.add_comm _ _)) (tq_M_mono (am_L_told h) ?_)
  refine tq_wl_e (fun r10 z11 h => ?_)
  refine tq_s_lstore (i := 4) (L9 := [.ref 902, .ref 0, .ref 51, .int r5, .long r10, .null, .null, .null]) (by decide +kernel) (by decide) rfl ?_
  refine tq_s_aload_n (kk := 1) (by decide +kernel) rfl ?_
  refine tq_s_aload_n (kk := 1) (by decide +kernel) rfl ?_
  obtain ⟨y12, ey12, h⟩ := h
  refine tq_callSH (as := [.ref 0]) (st := [.ref 0]) (d1 := 6) (x1 := 1) (x2 := y12) (by decide +kernel) ln_13_159 mf_L_bySigns rfl (by decide) np_L_bySigns rfl (Nat.le_of_ble_eq_true rfl) (by decide) (ey12.trans (Nat.add_comm _ _)) (tq_M_mono (am_L_bySigns (x := 0) h) ?_)
  refine tq_wi_e (fun r13 z14 h => ?_)
  obtain ⟨y15, ey15, h⟩ := h
  refine tq_callS (as := [.ref 0, .int r13]) (st := []) (d1 := 2) (x1 := 400) (x2 := y15) (by decide +kernel) ln_13_151 mf_L_told rfl (by decide) np_L_told rfl (Nat.le_of_ble_eq_true rfl) (by decide) (ey15.trans (Nat.add_comm _ _)) (tq_M_mono (am_L_told h) ?_)
  refine tq_wl_e (fun r16 z17 h => ?_)
  refine tq_s_lstore (i := 6) (L9 := [.ref 902, .ref 0, .ref 51, .int r5, .long r10, .null, .long r16, .null]) (by decide +kernel) (by decide) rfl ?_
  refine tq_s_iload_n (kk := 3) (by decide +kernel) rfl ?_
  refine tq_s_lload (i := 4) (by decide +kernel) rfl ?_
  refine tq_k_lc (n := 0) (v := (0 : Int64)) (by decide +kernel) (by decide +kernel) ?_
  refine tq_lcmp_lt (off := 24) (tgt := 74) (by decide +kernel) (by decide +kernel) (by decide +kernel) (fun hc => ?_) (fun hc => ?_)
  · replace h := h.1 hc
    exact tq_to (tq_ld1 (tq_lk1 (tq_lk1 (tq_ld1 (tq_lk1 (tq_lk1 (tq_ld1 (tq_lk1 tq_l0)))))))) (ac_law_74 h)
  · replace h := h.2 hc
    refine tq_s_lload (i := 6) (by decide +kernel) rfl ?_
    refine tq_s_ldc2 (i := 212) (v := (-900001 : Int64)) (by decide +kernel) (by decide +kernel) ?_
    refine tq_lcmp_eq (off := 11) (tgt := 70) (by decide +kernel) (by decide +kernel) (by decide +kernel) (fun hc => ?_) (fun hc => ?_)
    · replace h := h.1 hc
      exact tq_to (tq_ld1 (tq_lk1 (tq_lk1 (tq_ld1 (tq_lk1 (tq_lk1 (tq_ld1 (tq_lk1 tq_l0)))))))) (ac_law_70 h)
    · replace h := h.2 hc
      refine tq_s_lload (i := 6) (by decide +kernel) rfl ?_
      refine tq_s_lload (i := 4) (by decide +kernel) rfl ?_
      refine tq_lcmp_ne (off := 7) (tgt := 74) (by decide +kernel) (by decide +kernel) (by decide +kernel) (fun hc => ?_) (fun hc => ?_)
      · replace h := h.1 hc
        exact tq_to (tq_ld1 (tq_lk1 (tq_lk1 (tq_ld1 (tq_lk1 (tq_lk1 (tq_ld1 (tq_lk1 tq_l0)))))))) (ac_law_74 h)
      · replace h := h.2 hc
        exact tq_to (tq_ld1 (tq_lk1 (tq_lk1 (tq_ld1 (tq_lk1 (tq_lk1 (tq_ld1 (tq_lk1 tq_l0)))))))) (ac_law_70 h)
