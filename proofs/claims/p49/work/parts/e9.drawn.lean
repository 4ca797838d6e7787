/-! ===== the law's drawn ===== -/
section GR
variable {c w h : Nat} {r : Bool} {S : Nat → Bool} {z : tq_S} {p pk : Nat → Nat} {X : Nat} {g : Int32 → tq_S → Prop} {Q : tq_O → tq_S → Prop}
theorem sL_form {C : Int32} {n : Nat} (hk : fm_k C n) (hc : c < 100) (hs : gS c z) (k : ∀ z', gA (c + 1) (fm_d C n) (fm_d C n) false (fm_S C n) false p false pk 0 z' → g (nI (fb_ct (fm_S C n) 64)) z') : wm_L_form C (nI n) z (tq_wi g) := by
  obtain ⟨b1, b2, b3, b4⟩ := fm_b hk
  unfold wm_L_form
  refine sc_form (fun e => (c_fm e rfl hk).elim) (fun n' e hk' z' hn => Or.inl ⟨_, rfl, ⟨_, rfl, ?_⟩⟩)
  obtain ⟨b1', b2', _, _⟩ := fm_b hk'
  have en : n = n' := nI_u (by omega) (by omega) e
  subst en
  exact k z' (gA_n hc ⟨b3, b4, b3, b4, fun q => (by cases q), fm_re hk⟩ hn hs)
theorem sL_board (hw : 1 ≤ w ∧ w ≤ 8) (hh : 1 ≤ h ∧ h ≤ 8) (hc : c < 100) (hs : gS c z) (k : ∀ z', gA (c + 1) w h false (re_S w h) false p false pk 0 z' → g (nI (fb_ct (re_S w h) 64)) z') : wm_L_board (nI w) (nI h) z (tq_wi g) := by
  unfold wm_L_board
  refine sc_board (fun e => (c_bd e rfl rfl hw.1 hw.2 hh.1 hh.2).elim) (fun w' h' e1 e2 a1 a2 a3 a4 z' hn => Or.inl ⟨_, rfl, ⟨_, rfl, ?_⟩⟩)
  have f1 : w = w' := nI_u (by omega) (by omega) e1
  have f2 : h = h' := nI_u (by omega) (by omega) e2
  subst f1; subst f2
  exact k z' (gA_n hc ⟨hw.1, hw.2, hh.1, hh.2, fun q => (by cases q), re_re hh.2⟩ hn hs)
theorem sL_cut {x y : Int32} (hc : c < 100) (hh : gA c w h r S false p false pk 0 z) (k0 : ho w h S x y = false → g (-900001) z) (k1 : ∀ a b, a < w → b < h → S (8 * b + a) = true → ∀ z', gA (c + 1) w h r (fl_S S (8 * b + a)) false p false pk 0 z' → g (nI (fb_ct (fl_S S (8 * b + a)) 64)) z') : wm_L_cut x y z (tq_wi g) := by
  unfold wm_L_cut
  exact sc_cut hh.1.2.1 hh.1.2.2.1 (fun e => Or.inr ⟨rfl, ⟨_, rfl, k0 e⟩⟩) (fun a b _ _ ha hb hs z' hn => Or.inl ⟨_, rfl, ⟨_, rfl, k1 a b ha hb hs z' (gA_n hc (jd_fl hh.1.2.1 ha hb) hn hh.1.1)⟩⟩)
theorem sL_roll (hc : c < 100) (hh : gA c w h false S false p false pk 0 z) (k0 : ¬ (w % 2 = 0 ∧ 4 ≤ w) → g (-900001) z) (k1 : w % 2 = 0 ∧ 4 ≤ w → ∀ z', gA (c + 1) w h true S false p false pk 0 z' → g 0 z') : wm_L_roll 1 z (tq_wi g) := by
  have hd := hh.1.2.1
  unfold wm_L_roll
  refine sc_roll (b := true) ⟨fun e => absurd e (by decide +kernel), fun _ => ⟨rfl, rfl⟩⟩ hd hh.1.2.2.1 (fun _ e => Or.inr ⟨rfl, ⟨_, rfl, k0 e⟩⟩) (fun e z' hn => Or.inl ⟨_, rfl, ⟨fun _ => ⟨_, rfl, k1 (e rfl) z' (gA_n hc ⟨hd.1, hd.2.1, hd.2.2.1, hd.2.2.2.1, fun _ => e rfl, hd.2.2.2.2.2⟩ hn hh.1.1)⟩, fun e2 => absurd rfl e2⟩⟩)
theorem fl_ct {i : Nat} (hi : i < 64) (hs : S i = true) : fb_ct (fl_S S i) 64 + 1 = fb_ct S 64 := by
  have u := fb_ct_upd S false hi
  rw [if_pos hs, if_neg Bool.false_ne_true] at u
  have e : fb_ct (fl_S S i) 64 = fb_ct (fun k => if k = i then false else S k) 64 := fb_ct_cong fun k _ => by
    unfold fl_S
    by_cases q : k = i
    · rw [if_pos q, if_pos q, q, hs]; rfl
    · rw [if_neg q, if_neg q]
  omega
theorem re_ct : ∀ w : Fin 5, ∀ h : Fin 5, fb_ct (re_S (w.val + 1) (h.val + 1)) 64 = (w.val + 1) * (h.val + 1) := by decide +kernel
theorem fm_pa : ∀ n : Fin 3, 0 < fb_ct (fm_S 97 (n.val + 1)) 64 := by decide +kernel
theorem fm_ps : ∀ n : Fin 4, 0 < fb_ct (fm_S 115 (n.val + 2)) 64 := by decide +kernel
theorem fm_pc : ∀ n : Fin 4, 0 < fb_ct (fm_S 99 (n.val + 2)) 64 := by decide +kernel
theorem fm_po : ∀ n : Fin 3, 0 < fb_ct (fm_S 111 (n.val + 3)) 64 := by decide +kernel
theorem pos_n {n : Nat} (h0 : 0 < n) (hn : n ≤ 64) : ¬ nI n ≤ 0 := by
  rw [i_0, i_le (by omega) (by omega)]; omega
def dok (c : Nat) (z : tq_S) : Prop := ∃ w h r S, gA c w h r S false (fun j => j) false (fun j => j) 0 z
theorem dr_246 (hc : c < 50) (hX : 2 ≤ X) (hh : gA c w h false S false (fun j => j) false (fun j => j) 0 z) (k : ∀ z' c', c' ≤ c + 1 → dok c' z' → g 1 z') : wc_L_drawn_246 (tq_wi g) 1 (nI w) X z := by
  have hd := hh.1.2.1
  have hw8 := hd.2.1
  unfold wc_L_drawn_246
  have e4 : (4 : Int32) = nI 4 := rfl
  have rnd := fun (P : Int32 → tq_S → Prop) (kk : ∀ d z', d < 4 → fr [(2, 51)] z z' → P (nI d) z') => sL_rnd (z := z) (g := P) (n := 4) (by omega) (by omega) kk
  refine rnd _ (fun d z1 hd4 f1 => ⟨fun _ => ⟨bi_z (b := true), ⟨_, rfl, ?_⟩⟩, fun _ => ⟨X - 1, by omega, ?_⟩⟩)
  · exact k z1 c (by omega) ⟨w, h, false, S, gA_f f1 (by decide) hh⟩
  · have h1 := gA_f f1 (by decide) hh
    have fin : ∀ (v : Int32) z2 c', c' ≤ c + 1 → dok c' z2 → wc_L_drawn_283 (tq_wi g) v v 1 (X - 1) z2 := by
      intro v z2 c' hc' h2
      unfold wc_L_drawn_283
      refine ⟨fun e => absurd rfl e, fun _ v1 q1 => ?_⟩
      have q1 := q1.trans a11
      subst q1
      exact ⟨bi_z (b := true), ⟨_, rfl, k z2 c' hc' h2⟩⟩
    refine sL_roll (by omega) h1 (fun e => ?_) (fun e z2 h2 => ?_)
    · rw [i_2, i_remN (by omega) (by omega) (by omega), e4, i_lt (by omega) (by omega)]
      have go : wc_L_drawn_281 (tq_wi g) (-900001) 1 (X - 1) z1 := by
        unfold wc_L_drawn_281
        exact fin _ z1 c (by omega) ⟨w, h, false, S, h1⟩
      refine ⟨fun _ => go, fun e2 => ⟨fun _ => go, fun e3 => ?_⟩⟩
      rw [i_0, i_eq (by omega) (by omega)] at e2
      omega
    · rw [i_2, i_remN (by omega) (by omega) (by omega), e4, i_lt (by omega) (by omega), e.1]
      exact ⟨fun e2 => absurd rfl e2, fun _ => ⟨fun e3 => by omega, fun _ => fin _ z2 (c + 1) (by omega) ⟨w, h, true, S, h2⟩⟩⟩
theorem dr_166 {d : Nat} (hd5 : d < 5) (hc : c < 10) (hw5 : w ≤ 5) (hh5 : h ≤ 5) (hX : 30 ≤ X) (hh : gA c w h false S false (fun j => j) false (fun j => j) 0 z) (k : ∀ z' c', c' ≤ 50 → dok c' z' → g 1 z') : wc_L_drawn_166 (tq_wi g) 1 (nI w) (nI h) (nI d) X z := by
  unfold wc_L_drawn_166
  refine lp_inv (fun i s => ∃ X' z' S' c', s = ((1 : Int32), nI (d - i), X', z') ∧ X ≤ X' + 2 * i ∧ c' ≤ c + i ∧ gA c' w h false S' false (fun j => j) false (fun j => j) 0 z') d ?_ ⟨X, z, S, c, rfl, by omega, by omega, hh⟩
  rintro i s hi ⟨X', z1, S', c', rfl, hX', hc', h1⟩ B hB
  simp only
  have hd := h1.1.2.1
  unfold wb_L_drawn_166
  rw [i_0, i_le (by omega) (by omega)]
  refine ⟨fun _ => dr_246 (by omega) (by omega) h1 (fun z' c'' hc'' h' => k z' c'' (by omega) h'), fun e => ?_⟩
  refine sL_rnd (by have := hd.1; omega) (by omega) (fun x z2 hx f2 => ?_)
  refine sL_rnd (by have := hd.2.2.1; omega) (by omega) (fun y z3 hy f3 => ?_)
  have h3 := gA_f f3 (by decide) (gA_f f2 (by decide) h1)
  have n64 := fb_ct_le S' 64
  have nx : ∀ z4 S4 c4, c4 ≤ c' + 1 → gA c4 w h false S4 false (fun j => j) false (fun j => j) 0 z4 → wc_L_drawn_233 (fun b2 b6 x z => B (b2, b6, x, z)) (tq_wi g) (nI w) (nI h) (nI (d - i)) 1 (X' - 2) z4 := by
    intro z4 S4 c4 hc4 h4
    unfold wc_L_drawn_233 wc_L_drawn_238
    intro v1 q1 v2 q2
    have q1 := q1.trans a11
    have q2 : v2 = nI (d - (i + 1)) := q2.trans ((i_m1 (by omega)).trans (congrArg nI (by omega)))
    subst q1; subst q2
    exact hB (by omega) _ ⟨X' - 2, z4, S4, c4, rfl, by omega, by omega, h4⟩
  refine ⟨X' - 1, by omega, sL_cells h3 ⟨X' - 2, by omega, sL_cut (by omega) h3 (fun e2 => ?_) (fun a b ha hb hs z4 h4 => ?_)⟩⟩
  · refine ⟨fun e3 => ?_, fun _ => ⟨fun e3 => absurd rfl e3, fun _ => sL_has h3 ?_⟩⟩
    · exfalso
      have t1 : ((-900001 : Int32)).toInt = -900001 := by decide +kernel
      have t2 : (nI (fb_ct S' 64) - (1 : Int32)).toInt = (fb_ct S' 64 : Int) - 1 := by
        rw [nu_sub, i_ti (by omega)]
        · rfl
        · rw [i_ti (by omega)]
          show -2147483648 ≤ (fb_ct S' 64 : Int) - 1
          omega
        · rw [i_ti (by omega)]
          show (fb_ct S' 64 : Int) - 1 < 2147483648
          omega
      rw [nu_eq, t1, t2] at e3
      omega
    · rw [e2]
      exact ⟨fun e4 => absurd rfl e4, fun _ => nx z3 S' c' (by omega) h3⟩
  · have hi64 := jd_in hd _ hs
    have fc := fl_ct hi64 hs
    refine ⟨fun _ => nx z4 _ (c' + 1) (by omega) h4, fun e3 => ?_⟩
    rw [i_1, pk_sub (by omega)] at e3
    exact absurd (by congr 1; omega) e3
theorem sL_drawn (hs : gS 0 z) (k : ∀ z' c', c' ≤ 50 → dok c' z' → g 1 z') : wm_L_drawn z (tq_wi g) := by
  unfold wm_L_drawn
  rw [i_8]
  refine sL_rnd (by omega) (by omega) (fun d z1 hd f1 => ?_)
  have s1 := gS_f f1 (by decide) hs
  have ok : ∀ z2 c2 w h r S, c2 ≤ 50 → gA c2 w h r S false (fun j => j) false (fun j => j) 0 z2 → g 1 z2 := fun z2 c2 w h r S hc h2 => k z2 c2 hc ⟨w, h, r, S, h2⟩
  refine ⟨fun e0 => ⟨fun e1 => ⟨fun e2 => ?_, fun e2 => ?_⟩, fun e1 => ?_⟩, fun e0 => ?_⟩
  · rw [i_5]
    refine sL_rnd (by omega) (by omega) (fun a z2 ha f2 v5 q5 => ?_)
    refine sL_rnd (by omega) (by omega) (fun b z3 hb f3 v8 q8 => ?_)
    have s3 := gS_f f3 (by decide) (gS_f f2 (by decide) s1)
    rw [i_1, i_add, Nat.add_comm] at q5 q8
    subst q5; subst q8
    refine ⟨39, rfl, sL_board (p := fun j => j) (pk := fun j => j) (by omega) (by omega) (by omega) s3 (fun z4 h4 => ⟨fun e => ?_, fun _ => ?_⟩)⟩
    · rw [pk_mul] at e
      exact absurd (congrArg nI (re_ct ⟨a, ha⟩ ⟨b, hb⟩)) e
    · unfold wc_L_drawn_157
      intro v1 q1
      have q1 := q1.trans a11
      subst q1
      rw [i_5]
      exact sL_rnd (by omega) (by omega) (fun n z5 hn f5 => dr_166 hn (by omega) (by omega) (by omega) (by omega) (gA_f f5 (by decide) h4) k)
  · rw [i_3]
    refine sL_rnd (by omega) (by omega) (fun n z2 hn f2 => ⟨39, rfl, ?_⟩)
    rw [i_add, Nat.add_comm]
    refine sL_form (p := fun j => j) (pk := fun j => j) (Or.inr (Or.inr (Or.inl ⟨rfl, by omega, by omega⟩))) (by omega) (gS_f f2 (by decide) s1) (fun z3 h3 => ⟨fun e => absurd e (pos_n (fm_po ⟨n, hn⟩) (fb_ct_le _ _)), fun _ => ?_⟩)
    unfold wc_L_drawn_112
    intro v1 q1
    have q1 := q1.trans a11
    subst q1
    exact ⟨bi_z (b := true), ⟨_, rfl, ok z3 _ _ _ _ _ (by omega) h3⟩⟩
  · rw [i_2]
    have go : ∀ (C : Int32) (z2 : tq_S), gS 0 z2 → (∀ n, 2 ≤ n → n ≤ 8 → fm_k C n) → (∀ n : Fin 4, 0 < fb_ct (fm_S C (n.val + 2)) 64) → wc_L_drawn_62 (tq_wi g) C 1 40 z2 := by
      intro C z2 s2 hk hp
      unfold wc_L_drawn_62
      rw [i_4]
      refine sL_rnd (by omega) (by omega) (fun n z3 hn f3 => ⟨39, rfl, ?_⟩)
      rw [i_2, i_add, Nat.add_comm]
      refine sL_form (p := fun j => j) (pk := fun j => j) (hk _ (by omega) (by omega)) (by omega) (gS_f f3 (by decide) s2) (fun z4 h4 => ⟨fun e => absurd e (pos_n (hp ⟨n, hn⟩) (fb_ct_le _ _)), fun _ => ?_⟩)
      unfold wc_L_drawn_80
      intro v1 q1
      have q1 := q1.trans a11
      subst q1
      exact ⟨bi_z (b := true), ⟨_, rfl, ok z4 _ _ _ _ _ (by omega) h4⟩⟩
    refine sL_rnd (by omega) (by omega) (fun n z2 hn f2 => ⟨fun _ => ?_, fun _ => ?_⟩)
    · exact go 99 z2 (gS_f f2 (by decide) s1) (fun n h1 h2 => Or.inr (Or.inr (Or.inr ⟨rfl, h1, h2⟩))) fm_pc
    · exact go 115 z2 (gS_f f2 (by decide) s1) (fun n h1 h2 => Or.inr (Or.inl ⟨rfl, by omega, h2⟩)) fm_ps
  · rw [i_3]
    refine sL_rnd (by omega) (by omega) (fun n z2 hn f2 => ⟨39, rfl, ?_⟩)
    rw [i_1, i_add, Nat.add_comm]
    refine sL_form (p := fun j => j) (pk := fun j => j) (Or.inl ⟨rfl, by omega, by omega⟩) (by omega) (gS_f f2 (by decide) s1) (fun z3 h3 => ⟨fun e => absurd e (pos_n (fm_pa ⟨n, hn⟩) (fb_ct_le _ _)), fun _ => ?_⟩)
    unfold wc_L_drawn_35
    intro v1 q1
    have q1 := q1.trans a11
    subst q1
    exact ⟨bi_z (b := true), ⟨_, rfl, ok z3 _ _ _ _ _ (by omega) h3⟩⟩
end GR
