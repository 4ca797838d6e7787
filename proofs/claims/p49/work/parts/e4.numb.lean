/-! ===== the law's numbered ===== -/
section GN
variable {c w h : Nat} {r : Bool} {S : Nat → Bool} {G : (Nat → Nat) → Nat → Int} {z : tq_S} {b b6 bk : Bool} {p p0 pk : Nat → Nat} {u x : Nat} {g : Int32 → tq_S → Prop} {B34 : Int32 → Int32 → Nat → tq_S → Prop} {Q : tq_O → tq_S → Prop} {a2 : Int64} {a5 a7 : Int32}
theorem a11 : ((1 : Int32) &&& (1 : Int32)) = 1 := by decide +kernel
theorem i_divN {a b : Nat} (ha : a < 2147483648) (hb : 0 < b) (hb2 : b < 2147483648) : nI a / nI b = nI (a / b) := by
  have hq : a / b ≤ a := Nat.div_le_self a b
  rw [nu_eq, Int32.toInt_div, i_ti ha, i_ti hb2, i_ti (Nat.lt_of_le_of_lt hq ha), ← Int.ofNat_tdiv]
  generalize a / b = q at hq ⊢
  exact Int.bmod_eq_of_le (by omega) (by omega)
theorem i_remN {a b : Nat} (ha : a < 2147483648) (hb : 0 < b) (hb2 : b < 2147483648) : nI a - nI a / nI b * nI b = nI (a % b) := by
  rw [i_divN ha hb hb2, pk_mul, pk_sub (Nat.div_mul_le_self a b), Nat.sub_eq_of_eq_add (Nat.mod_add_div' a b).symm]
theorem rnd_k {P : Int32 → Prop} {n : Nat} (h0 : 0 < n) (hn : n < 65536) (k : ∀ d, d < n → P (nI d)) (X : Int32) : P ((X &&& (65535 : Int32)) - (X &&& (65535 : Int32)) / nI n * nI n) := by
  obtain ⟨m, hm, rfl⟩ := wb_of32 X
  rw [show (65535 : Int32) = nI 65535 from rfl, i_mod (k := 16) (by decide), i_remN (by omega) h0 (by omega)]
  exact k _ (Nat.mod_lt _ h0)
theorem sL_rnd {n : Nat} (h0 : 0 < n) (hn : n < 65536) (k : ∀ d z', d < n → fr [(2, 51)] z z' → g (nI d) z') : wm_L_draw_ (nI n) z (tq_wi g) := by
  unfold wm_L_draw_
  intro z1 e1
  refine ⟨fun e => ?_, ⟨_, rfl, ?_⟩⟩
  · rw [i_0, i_eq (by omega) (by omega)] at e
    omega
  · exact rnd_k (P := fun v => g v z1) h0 hn (fun d hd => k d z1 hd (by rw [e1]; exact fr_sai (by decide) fr_r)) _
theorem sL_numT {K : Int64 → Nat → tq_S → Prop} (hh : gA c w h r S true p bk pk u z) (hx : 401 ≤ x) (k : ∀ z', fr ([(3, 3), (3, 4), (0, 134)] ++ FT) z z' → gA c w h r S true p bk pk u z' → K (lN (rk w r 0 S p)) (x - 401) z') : ∃ y : Nat, x = y + 1 ∧ wm_L_number z (tq_wi fun v z' => ∃ y' : Nat, y = y' + 400 ∧ wm_L_told v z' (tq_wl fun v z'' => K v y' z'')) :=
  ⟨x - 1, by omega, sL_number hh (fun e => by cases e) (fun _ z' f h' t => ⟨x - 401, by omega, sq_told (neg := false) t (k z' f h')⟩)⟩
theorem par_0 : ∀ i : Fin 5, ∀ m : Fin 5, m.val ≤ i.val → (m.val + i.val) % 2 = 0 → (nI m.val - nI i.val) - (nI m.val - nI i.val) / (2 : Int32) * (2 : Int32) = 0 := by decide +kernel
theorem nb_401 {i : Nat} (hG : pln w h r S = true → fam w h S G) (h6 : pln w h r S = b6) (hi : i ≤ 4) (hx : 1 ≤ x) (hh : gA c w h r S true p true p0 u z) (hA : b6 = true → fb_sm (apS S (G p) (G p0)) 81 ≤ 4 * i ∧ (fb_sm (apS S (G p) (G p0)) 81 / 4 + i) % 2 = 0) (k : ∀ x' z', x ≤ x' + 1 → gA c w h r S true p true p0 u z' → B34 1 (a7 + 1) x' z') : wc_L_numbered_401 B34 Q a2 1 a5 (bi b6) a7 (nI i) x z := by
  have fin : ∀ x' z', x ≤ x' + 1 → gA c w h r S true p true p0 u z' → wc_L_numbered_464 B34 Q a2 a5 (bi b6) a7 1 1 x' z' := by
    intro x' z' hx' hh'
    unfold wc_L_numbered_464
    intro v1 e1 v2 e2
    have e1 := e1.trans a11
    subst e1; subst e2
    exact k x' z' hx' hh'
  unfold wc_L_numbered_401
  cases b6
  · refine ⟨fun _ => ?_, fun e => absurd rfl e⟩
    unfold wc_L_numbered_414
    refine ⟨fun e => absurd e (by decide +kernel), fun _ => ⟨fun e => absurd e (i_n0 (by omega)), fun _ => ⟨fun _ => ?_, fun _ => ?_⟩⟩⟩
    · unfold wc_L_numbered_445
      refine ⟨fun e => absurd rfl e, fun _ => ?_⟩
      unfold wc_L_numbered_455
      exact ⟨fun e => absurd e (by decide +kernel), fun _ => fin x z (by omega) hh⟩
    · unfold wc_L_numbered_445
      refine ⟨fun e => absurd rfl e, fun _ => ?_⟩
      unfold wc_L_numbered_455
      exact ⟨fun e => absurd e (by decide +kernel), fun _ => fin x z (by omega) hh⟩
  · refine ⟨fun e => absurd e (by decide +kernel), fun _ => ⟨x - 1, by omega, sL_apart (hG h6) h6 hh (fun z' f hh' => ?_)⟩⟩
    obtain ⟨hA1, hA2⟩ := hA rfl
    have hm : fb_sm (apS S (G p) (G p0)) 81 / 4 ≤ i := by omega
    generalize fb_sm (apS S (G p) (G p0)) 81 / 4 = m at hm hA2
    unfold wc_L_numbered_414
    refine ⟨fun e => absurd e (i_n0 (by omega)), fun _ => ⟨fun e => absurd ((i_lt (by omega) (by omega)).mp e) (by omega), fun _ => ⟨fun e => absurd (par_0 ⟨i, by omega⟩ ⟨m, by omega⟩ hm hA2) e, fun _ => ?_⟩⟩⟩
    unfold wc_L_numbered_445
    refine ⟨fun _ => ?_, fun e => absurd e (by decide +kernel)⟩
    unfold wc_L_numbered_455
    exact ⟨fun e => absurd e (by decide +kernel), fun _ => fin _ z' (by omega) hh'⟩
theorem nb_355 {d : Nat} (hG : pln w h r S = true → fam w h S G) (h6 : pln w h r S = b6) (hd4 : d ≤ 4) (hx : 20 ≤ x) (hh : gA c w h r S true p0 true p0 u z) (k : ∀ x' z' p' u', x ≤ x' + 20 → gA c w h r S true p' true p0 u' z' → B34 1 (a7 + 1) x' z') : wc_L_numbered_355 B34 Q a2 1 a5 (bi b6) a7 (0 : Int32) (nI d) x z := by
  unfold wc_L_numbered_355
  refine lp_inv (fun i s => ∃ x' z' p' u', s = ((1 : Int32), nI i, nI (d - i), x', z') ∧ x ≤ x' + 3 * i ∧ gA c w h r S true p' true p0 u' z' ∧ (b6 = true → fb_sm (apS S (G p') (G p0)) 81 ≤ 4 * i ∧ (fb_sm (apS S (G p') (G p0)) 81 / 4 + i) % 2 = 0)) d ?_ ⟨x, z, p0, u, rfl, by omega, hh, fun _ => by rw [apd_0]; exact ⟨Nat.zero_le _, rfl⟩⟩
  rintro i s hi ⟨x', z', p', u', rfl, hx', hh', hA⟩ B hB
  simp only
  unfold wb_L_numbered_355
  have out : ∀ y, x ≤ y + 17 → wc_L_numbered_401 B34 Q a2 1 a5 (bi b6) a7 (nI i) y z' := fun y hy => nb_401 hG h6 (by omega) (by omega) hh' hA (fun x'' z'' hx'' hh'' => k x'' z'' p' u' (by omega) hh'')
  have n64 := fb_ct_le (fq w h r S p') 64
  rw [i_0, i_le (by omega) (by omega)]
  refine ⟨fun e => out x' (by omega), fun e => ⟨x' - 1, by omega, sL_flips hh' (fun e => by cases e) (fun _ => ⟨fun e1 => out _ (by omega), fun e1 => ⟨x' - 2, by omega, sL_flips hh' (fun e => by cases e) (fun _ => ?_)⟩⟩)⟩⟩
  rw [i_le (by omega) (by omega)] at e1
  refine sL_rnd (by omega) (by omega) (fun j z1 hj f1 => ⟨x' - 3, by omega, ?_⟩)
  have h1 := gA_f f1 (by decide) hh'
  have hv := hh'.2.1.2 rfl
  refine sL_flip h1 (fun e => absurd ⟨j, by omega, rfl, hj⟩ e) (fun d' hd' hq e2 z2 h2 t2 => ⟨fun e3 => ?_, fun _ => ?_⟩)
  · rw [i_le (Nat.lt_of_le_of_lt (fb_ct_le _ _) (by decide)) (by omega)] at e3
    have := fq_pos hh'.1.2.1 hv.1 hq hd'
    omega
  · unfold wc_L_numbered_389
    intro v1 q1 v2 q2 v3 q3
    have q1 := q1.trans a11
    have q2 : v2 = nI (i + 1) := q2.trans (by rw [i_1, i_add])
    have q3 : v3 = nI (d - (i + 1)) := q3.trans ((i_m1 (by omega)).trans (congrArg nI (by omega)))
    subst q1; subst q2; subst q3
    refine hB (by omega) _ ⟨x' - 3, z2, pf w p' d', _, rfl, by omega, h2, fun hb => ?_⟩
    obtain ⟨hA1, hA2⟩ := hA hb
    have hp := h6.trans hb
    have er := (pln_t hp).1
    have hd := hh'.1.2.1
    have hv0 := (hh'.2.2.1.2 rfl).1
    have hv1 := hv.1
    subst er
    have a4 := apd_4 hd (hG hp) hv1 hv0
    rcases apd_s hd (hG hp) hv1 hv0 hq with q | q
    · omega
    · omega
theorem nb_324 {N : Nat} (hN : N = fb_ct (fq w h r S p0) 64) (hG : pln w h r S = true → fam w h S G) (h6 : pln w h r S = b6) (hx : 22 ≤ x) (hh : gA c w h r S true p0 true p0 u z) (k : ∀ x' z' p' u', x ≤ x' + 22 → gA c w h r S true p' true p0 u' z' → B34 1 (a7 + 1) x' z') : wc_L_numbered_324 B34 Q a2 1 a5 (bi b6) a7 (nI N) x z := by
  unfold wc_L_numbered_324
  have n64 := fb_ct_le (fq w h r S p0) 64
  have no : ¬ fidx (fq w h r S p0) (nI N) := by
    rintro ⟨n, h1, h2, h3⟩
    rw [i_eq (by omega) (by omega)] at h2
    omega
  refine ⟨x - 1, by omega, sL_flip hh (fun _ => ⟨fun e => absurd rfl e, fun _ => ?_⟩) (fun d hd hq e => absurd (fidx_of hd hq e) no)⟩
  unfold wc_L_numbered_342
  intro v1 q1
  have q1 := q1.trans a11
  subst q1
  rw [i_5]
  refine sL_rnd (by omega) (by omega) (fun d z1 hd f1 => ?_)
  exact nb_355 hG h6 (by omega) (by omega) (gA_f f1 (by decide) hh) (fun x' z' p' u' hx' h' => k x' z' p' u' (by omega) h')
theorem nb_265 {N : Nat} (hN : N = fb_ct (fq w h r S p0) 64) (hG : pln w h r S = true → fam w h S G) (h6 : pln w h r S = b6) (hx : 60 ≤ x) (hh : gA c w h r S true p0 true p0 u z) (k : ∀ x' z' p' u', x ≤ x' + 60 → gA c w h r S true p' true p0 u' z' → B34 1 (a7 + 1) x' z') : wc_L_numbered_265 B34 Q a2 1 a5 (bi b6) a7 (nI N) (0 : Int32) x z := by
  unfold wc_L_numbered_265
  have n64 := fb_ct_le (fq w h r S p0) 64
  refine lp_inv (fun i s => ∃ x' z' u', s = ((1 : Int32), nI i, x', z') ∧ x ≤ x' + 3 * i ∧ gA c w h r S true p0 true p0 u' z') 6 ?_ ⟨x, z, u, rfl, by omega, hh⟩
  rintro i s hi ⟨x', z', u', rfl, hx', hh'⟩ B hB
  simp only
  unfold wb_L_numbered_265
  have out : wc_L_numbered_324 B34 Q a2 1 a5 (bi b6) a7 (nI N) x' z' := nb_324 hN hG h6 (by omega) hh' (fun x'' z'' p'' u'' hx'' hh'' => k x'' z'' p'' u'' (by omega) hh'')
  rw [i_6, i_le (by omega) (by omega), i_le (by omega) (by omega)]
  refine ⟨fun _ => out, fun e => ⟨fun _ => out, fun e1 => ⟨x' - 1, by omega, sL_flip hh' (fun e2 => absurd ⟨i, by omega, rfl, by omega⟩ e2) (fun d hd hq e2 z1 h1 t1 => ⟨fun e3 => ?_, fun _ => ?_⟩)⟩⟩⟩
  · rw [i_0, i_le (Nat.lt_of_le_of_lt (fb_ct_le _ _) (by decide)) (by omega)] at e3
    have := fq_pos hh'.1.2.1 (hh'.2.1.2 rfl).1 hq hd
    omega
  · have back : ∀ y z2, x' ≤ y + 2 → gA c w h r S true (pf w p0 d) true p0 (ul u' + 1) z2 → gT w r S (ul u' + 1) p0 z2 → wc_L_numbered_303 B34 (fun b4 b13 x z => B (b4, b13, x, z)) Q a2 a5 (bi b6) a7 (nI N) (nI i) 1 y z2 := by
      intro y z2 hy h2 t2
      unfold wc_L_numbered_303
      refine ⟨y - 1, by omega, sL_undo h2 t2 (fun m z3 em h3 => ⟨fun e4 => absurd e4 (i_n0 (by have := h2.2.2.2.2.1; omega)), fun _ => ?_⟩)⟩
      unfold wc_L_numbered_315
      intro v1 q1 v2 q2
      have q1 := q1.trans a11
      have q2 : v2 = nI (i + 1) := q2.trans (by rw [i_1, i_add])
      subst q1; subst q2
      exact hB (by omega) _ ⟨y - 1, z3, m, rfl, by omega, h3⟩
    cases b6
    · exact ⟨fun _ => back _ z1 (by omega) h1 t1, fun e4 => absurd rfl e4⟩
    · refine ⟨fun e4 => absurd e4 (by decide +kernel), fun _ => ⟨x' - 2, by omega, sL_apart (hG h6) h6 h1 (fun z2 f2 h2 => ?_)⟩⟩
      have er := (pln_t h6).1
      have hd := hh'.1.2.1
      have hv := (hh'.2.1.2 rfl).1
      have e4 : fb_sm (apS S (G (pf w p0 d)) (G p0)) 81 = 4 := by
        subst er
        exact (fl_hF hd (hG h6) hv hq).2
      rw [e4]
      exact ⟨fun e5 => absurd rfl e5, fun _ => back _ z2 (by omega) h2 (gT_f f2 (by decide) t1)⟩
theorem nb_253 (hG : pln w h r S = true → fam w h S G) (h6 : pln w h r S = b6) (hx : 62 ≤ x) (hh : gA c w h r S true p0 true p0 u z) (k : ∀ x' z' p' u', x ≤ x' + 62 → gA c w h r S true p' true p0 u' z' → B34 1 (a7 + 1) x' z') : wc_L_numbered_253 B34 Q a2 a5 (bi b6) a7 1 1 x z := by
  unfold wc_L_numbered_253
  intro v1 q1
  have q1 := q1.trans a11
  subst q1
  exact ⟨x - 1, by omega, sL_flips hh (fun e => by cases e) (fun _ => nb_265 rfl hG h6 (by omega) hh (fun x' z' p' u' hx' h' => k x' z' p' u' (by omega) h'))⟩
theorem nb_220 (hG : pln w h r S = true → fam w h S G) (h6 : pln w h r S = b6) (hx : 66 ≤ x) (hh : gA c w h r S true p0 bk pk u z) (k : ∀ x' z' p' u', x ≤ x' + 66 → gA c w h r S true p' true p0 u' z' → B34 1 (a7 + 1) x' z') : wc_L_numbered_220 B34 Q a2 a5 (bi b6) a7 1 1 x z := by
  unfold wc_L_numbered_220
  intro v1 q1
  have q1 := q1.trans a11
  subst q1
  have fin : ∀ y z', x ≤ y + 3 → gA c w h r S true p0 true p0 u z' → wc_L_numbered_248 B34 Q a2 a5 (bi b6) a7 1 y z' := by
    intro y z' hy h'
    unfold wc_L_numbered_248
    exact nb_253 hG h6 (by omega) h' (fun x' z' p' u' hx' h' => k x' z' p' u' (by omega) h')
  refine ⟨x - 1, by omega, sL_keep hh (fun z1 h1 => ⟨x - 2, by omega, sL_cuts h1 ⟨fun e => absurd rfl e, fun _ => ?_⟩⟩)⟩
  cases b6
  · exact ⟨fun _ => fin _ z1 (by omega) h1, fun e => absurd rfl e⟩
  · refine ⟨fun e => absurd e (by decide +kernel), fun _ => ⟨x - 3, by omega, sL_apart (hG h6) h6 h1 (fun z2 f2 h2 => ?_)⟩⟩
    rw [apd_0]
    exact ⟨fun e5 => absurd rfl e5, fun _ => fin _ z2 (by omega) h2⟩
end GN
