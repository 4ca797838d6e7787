/-! ===== the law itself ===== -/
section GL
variable {c w h : Nat} {r : Bool} {S : Nat → Bool} {z : tq_S} {b bk : Bool} {p pk : Nat → Nat} {u X : Nat} {g : Int32 → tq_S → Prop} {Q : tq_O → tq_S → Prop} {K : Nat × (Nat → Int32)}
theorem exn_0 {C M Z : Nat → Nat} {A : Nat → Int64} {P : Nat} {f : Nat → plc} {st : Nat → Nat} {g0 : Nat} (hx : exc w h r S 0 C M Z A P f st g0 z) : exn (fb_ct S 64) P f 0 M < 2147483648 := by
  have hp := hx.2.2.2.1
  have p0 : P = 0 := by
    rcases Nat.eq_zero_or_pos P with q | q
    · exact q
    · exact absurd (hp.2 0 q).1 (Nat.not_lt_zero _)
  subst p0
  unfold exn cnx
  split
  · decide
  · show (0 : Nat) < _
    decide
theorem sL_isSound (hh : gA c w h r S b p bk pk u z) (k : ∀ z', g 1 z') : wm_L_isSound z (tq_wi g) := by
  obtain ⟨a1, a2, a3, a4, a5, a6, a7⟩ := hh.1.1
  unfold wm_L_isSound
  refine sc_isSound (kN := 0) (C := fun _ => 0) (M := fun _ => 0) (Z := fun _ => 0) (A := fun _ => 0) hh.1.2.1 hh.1.2.2.1 hh.1.2.2.2.1 hh.1.2.2.2.2.1 hh.2.1.1 (fun e => hh.2.1.2 e) hh.1.2.2.2.2.2 ⟨a2, by omega, fun k hk => absurd hk (by omega)⟩ (fun k hk => absurd hk (by omega)) (fun _ P f st g z' hx => exn_0 hx) (fun e => ?_) (fun z' _ _ _ _ _ _ _ _ _ _ => ⟨_, rfl, ⟨fun e => absurd e (by decide +kernel), fun _ => ⟨_, rfl, k z'⟩⟩⟩)
  exfalso
  rw [a3, a4] at e
  have := i_n0 (a := c) (by omega)
  rw [← e] at this
  exact this (by decide)
theorem sL_fold (hK : K.1 ≤ 260) (k : ∀ v, g v z) : wm_L_fold K z (tq_wi g) := by
  unfold wm_L_fold wc_L_fold_5
  refine lp_inv (fun i s => ∃ v, s = (v, nI i, z)) K.1 ?_ ⟨7, rfl⟩
  rintro i s hi ⟨v, rfl⟩ B hB
  simp only
  unfold wb_L_fold_5
  have e : Int32.ofNat K.1 = nI K.1 := rfl
  rw [e, i_le (by omega) (by omega)]
  refine ⟨fun _ => ⟨_, rfl, k v⟩, fun q => ⟨i_in (by omega) (by omega), fun v1 _ v2 _ v3 q3 => ?_⟩⟩
  have q3 : v3 = nI (i + 1) := q3.trans (by rw [i_1, i_add])
  subst q3
  exact hB (by omega) _ ⟨v2, rfl⟩
def lz_Q : tq_O → tq_S → Prop := fun o _ => o = .inl (some (.int 1))
theorem law_172 (hX : 60000 ≤ X) (hh : gA c w h r S b p bk pk u z) : wc_law_172 K lz_Q 1 X z := by
  unfold wc_law_172
  refine ⟨fun e => absurd e (by decide +kernel), fun _ => ⟨X - 60000, by omega, sL_strips hh (fun z1 h1 => ⟨fun e => absurd e (by decide +kernel), fun _ => sL_isSound h1 (fun z2 => ⟨fun e => absurd rfl e, fun _ => rfl⟩)⟩)⟩⟩
theorem law_99 {T : Nat} (hT : T = cv_T w r 0 S) (hX : 90000 ≤ X) (hh : gA c w h r S false p bk pk u z) : wc_law_99 K lz_Q (lN T) 1 1 X z := by
  have hd := hh.1.2.1
  have tb := T_b hd
  unfold wc_law_99
  intro v1 q1
  have q1 := q1.trans a11
  subst q1
  rw [l_0, l_leN (by omega) (by omega)]
  refine ⟨fun e => ⟨X - 1, by omega, ?_⟩, fun e => ?_⟩
  · refine sL_draw hh (fun _ z1 h1 => ⟨fun e => absurd rfl e, fun _ => ⟨X - 2, by omega, ?_⟩⟩) (fun e2 => by omega)
    refine sL_number h1 (fun _ => ⟨fun e => absurd rfl e, fun _ => ⟨X - 3, by omega, ?_⟩⟩) (fun e2 => by cases e2)
    refine sL_flips h1 (fun _ => ⟨fun e => absurd rfl e, fun _ => ?_⟩) (fun e2 => by cases e2)
    unfold wc_law_170
    intro v2 q2
    have q2 := q2.trans a11
    subst q2
    exact law_172 (by omega) h1
  · refine sL_free hh (fun z1 m h1 e1 p1 => ?_)
    rw [alone_0 hd p1.1 (by omega)]
    refine ⟨fun e2 => absurd rfl e2, fun _ => ⟨X - 20000, by omega, ?_⟩⟩
    obtain ⟨G, hG⟩ := fam_all hd
    refine sL_numbered hT (by omega) hG h1 (fun z2 b2 p2 bk2 pk2 u2 h2 => ⟨fun e2 => absurd e2 (by decide +kernel), fun _ => ?_⟩)
    unfold wc_law_131
    intro v2 q2
    have q2 := q2.trans a11
    subst q2
    exact law_172 (by omega) h2
theorem law_ok (hK : K.1 ≤ 260) (hs : gS 0 z) : wm_law K z lz_Q := by
  unfold wm_law
  refine sL_fold hK (fun v z3 e3 => ⟨449960, rfl, ?_⟩)
  have f3 : fr [(2, 51)] z z3 := by rw [e3]; exact fr_sai (by decide) fr_r
  refine sL_drawn (gS_f f3 (by decide) hs) (fun z4 c hc h4 => ?_)
  obtain ⟨w, h, r, S, h4⟩ := h4
  have hd := h4.1.2.1
  have tb := T_b hd
  refine sL_covers h4 (fun z5 h5 t5 => ⟨449560, rfl, sq_told (neg := false) t5 ⟨449559, rfl, ?_⟩⟩)
  have go : ∀ z6, gA c w h r S false (fun j => j) false (fun j => j) 0 z6 → wc_law_70 K lz_Q (lN (cv_T w r 0 S)) 1 449159 z6 := by
    intro z6 h6
    unfold wc_law_70 wc_law_75
    intro v1 q1
    have q1 := q1.trans a11
    subst q1
    refine ⟨149159, rfl, sL_counts rfl hd h6 (fun z7 h7 => ⟨fun e => absurd e (by decide +kernel), fun _ => ⟨149149, rfl, sL_freed h7 (fun z8 h8 => ⟨fun e => absurd e (by decide +kernel), fun _ => law_99 rfl (by omega) h8⟩)⟩⟩)⟩
  have nn : ¬ tdv false (cv_T w r 0 S) < (0 : Int64) := by
    show ¬ lN (cv_T w r 0 S) < (0 : Int64)
    rw [l_0, l_ltN (by omega) (by omega)]
    omega
  refine sL_bySigns h5 (fun e => ⟨449159, rfl, sq_toldNo (by decide +kernel) ⟨fun e2 => absurd e2 nn, fun _ => ⟨fun _ => go z5 h5, fun e3 => absurd (by decide +kernel) e3⟩⟩⟩) (fun e z6 h6 t6 => ⟨449159, rfl, sq_told (neg := false) t6 ⟨fun e2 => absurd e2 nn, fun _ => ⟨fun _ => go z6 h6, fun _ => ⟨fun e4 => absurd rfl e4, fun _ => go z6 h6⟩⟩⟩⟩)
end GL
