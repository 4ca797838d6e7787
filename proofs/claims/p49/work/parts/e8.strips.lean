/-! ===== the law's freed and strips ===== -/
section GE
variable {c w h : Nat} {r : Bool} {S : Nat → Bool} {z : tq_S} {b bk : Bool} {p pk m : Nat → Nat} {u X : Nat} {g : Int32 → tq_S → Prop} {f9 : Int64 → tq_S → Prop} {Q : tq_O → tq_S → Prop}
theorem sq_refreshC (e : tq_fi z 1220 = tq_fi z 68) (k : Q (.inl none) z) : wm_X9_refresh z Q := by
  unfold wm_X9_refresh
  exact ⟨fun u => absurd e u, fun _ => k⟩
theorem sL_freeC (e : tq_fi z 1220 = tq_fi z 68) (p1 : PR w r S m z) (k : g (nI (fb_ct (fun x => S x && decide (m x = x)) 64)) z) : wm_L_free z (tq_wi g) := by
  unfold wm_L_free wm_X11_free
  have : fb_ct (ct (tq_fl z 1221)) 64 = fb_ct (fun x => S x && decide (m x = x)) 64 := fb_ct_cong (fun x hx => p1.2 x hx)
  rw [← this] at k
  exact sq_refreshC e ⟨rfl, sp_bc ⟨_, rfl, ⟨_, rfl, ⟨_, rfl, k⟩⟩⟩⟩
theorem sL_rolesC {n v : Nat} (hd : jd w h r S) (hj : jc w h r S z) (e : tq_fi z 1220 = tq_fi z 68) (p1 : PR w r S m z) (hn : (n = 102 ∧ v = fb_ct (ct (tq_fl z 1222)) 64) ∨ (n = 110 ∧ v = fb_ct (ct (tq_fl z 1223)) 64) ∨ (n = 45 ∧ v + fb_ct (ct (tq_fl z 1222)) 64 + fb_ct (ct (tq_fl z 1223)) 64 = fb_ct S 64)) (k : g (nI v) z) : wm_L_roles (nI n) z (tq_wi g) := by
  have s64 := fb_ct_le S 64
  have go : ∀ a : Int32, a = nI n → wc_X11_roles_29 (fun o z1 => tq_wi (fun r2 z1 => tq_wi g (.inl (some (.int r2))) z1) o z1 ∨ (o = .inr 1 ∧ tq_wi g (.inl (some (.int (-900001)))) z1)) a z := by
    intro a ea
    unfold wc_X11_roles_29
    refine sq_refreshC e ⟨rfl, sp_bc ⟨_, rfl, sp_bc ⟨_, rfl, ?_⟩⟩⟩
    rw [ea]
    dsimp only
    have K : (fun (o : tq_O) z1 => tq_wi (fun r2 z1 => tq_wi g (.inl (some (.int r2))) z1) o z1 ∨ (o = .inr 1 ∧ tq_wi g (.inl (some (.int (-900001)))) z1)) (.inl (some (.int (nI v)))) z := Or.inl ⟨_, rfl, ⟨_, rfl, k⟩⟩
    rcases hn with ⟨rfl, rfl⟩ | ⟨rfl, rfl⟩ | ⟨rfl, e9⟩
    · exact ⟨fun u => absurd rfl u, fun _ => K⟩
    · exact ⟨fun _ => ⟨fun u => absurd rfl u, fun _ => K⟩, fun u => absurd u (by decide +kernel)⟩
    · refine ⟨fun _ => ⟨fun _ => sq_size hj ⟨_, rfl, ?_⟩, fun u => absurd u (by decide +kernel)⟩, fun u => absurd u (by decide +kernel)⟩
      dsimp only
      rw [pk_sub (by omega), pk_sub (by omega)]
      have e3 : fb_ct S 64 - fb_ct (ct (tq_fl z 1222)) 64 - fb_ct (ct (tq_fl z 1223)) 64 = v := by omega
      rw [e3]; exact K
  unfold wm_L_roles wm_X11_roles
  rcases hn with ⟨rfl, _⟩ | ⟨rfl, _⟩ | ⟨rfl, _⟩
  · exact ⟨fun q => go _ rfl, fun q => absurd rfl q⟩
  · exact ⟨fun q => absurd q (by decide +kernel), fun _ => ⟨fun q => go _ rfl, fun q => absurd rfl q⟩⟩
  · exact ⟨fun q => absurd q (by decide +kernel), fun _ => ⟨fun q => absurd q (by decide +kernel), fun _ => ⟨fun q => go _ rfl, fun q => absurd rfl q⟩⟩⟩
theorem alone_0 {F B : Nat → Bool} (hd : jd w h r S) (hs : rs w r S m F B) (h0 : 0 < cv_T w r 0 S) : fb_ct (fun x => S x && decide (m x = x)) 64 = 0 := by
  have hp := (ur_ok hd.2.1 (jd_r hd) rfl (jd_bh hd) h0).1
  generalize ur w r 0 S 0 = p at hp
  have hi : ∀ a, nb w r a a = false := fun a => nb_i (by
    cases q : r
    · exact Or.inr rfl
    · exact Or.inl (by have := jd_r hd q; omega))
  have hm : mg w r S p := fun x hx => ⟨(hp x hx).1, (hp x hx).2.1, Or.inr (hp x hx).2.2⟩
  have a1 := al_ct hd hm
  have a2 := al_ct hd hs.1
  have a3 := (rs_1 hd hs).2 _ (fm_lm hd hm)
  have a4 : fb_ct (fun x => S x && decide (p x = x)) 64 = 0 := fb_ct_zero.mpr (fun x _ => by
    cases hx : S x
    · rfl
    · have := (hp x hx).2.2
      have ne : ¬ p x = x := fun e => by rw [e, hi] at this; cases this
      rw [decide_eq_false ne]; rfl)
  omega
theorem sL_freed (hh : gA c w h r S b p bk pk u z) (k : ∀ z', gA c w h r S b p bk pk u z' → g 1 z') : wm_L_freed z (tq_wi g) := by
  unfold wm_L_freed
  rw [i_102, i_110]
  refine ⟨9, rfl, sL_roles (n := 102) (Or.inl rfl) hh (fun z1 m h1 e1 p1 => ⟨8, rfl, ?_⟩)⟩
  have hd := h1.1.2.1
  have hj := h1.1.2.2.1
  obtain ⟨r1, r2, r3⟩ := roC_ct hd p1.1
  have r4 := rs_3 hd p1.1
  rw [r1]
  refine sL_rolesC hd hj e1 p1 (Or.inr (Or.inl ⟨rfl, rfl⟩)) (sL_freeC e1 p1 ⟨fun q => ?_, fun _ => ⟨7, rfl, ?_⟩⟩)
  · rw [pk_sub (by omega)] at q
    exact absurd (by congr 1; omega) q
  · rw [show (45 : Int32) = nI 45 from rfl]
    refine sL_rolesC (v := fb_ct (fun c => S c && decide (roC (ct (tq_fl z1 1222)) (ct (tq_fl z1 1223)) c = 45)) 64) hd hj e1 p1 (Or.inr (Or.inr ⟨rfl, r3⟩)) ⟨6, rfl, sL_cells h1 ⟨fun q => ?_, fun _ => ⟨5, rfl, ?_⟩⟩⟩
    · rw [i_add, i_add] at q
      exact absurd (by congr 1; omega) q
    · exact sL_rolesNo h1 (by decide +kernel) (by decide +kernel) (by decide +kernel) ⟨fun q => absurd rfl q, fun _ => ⟨_, rfl, k z1 h1⟩⟩
/-! strips -/
theorem sL_order {v : Nat} (h1 : 1 ≤ v) (h6 : v ≤ 6) (k : g (nI (sOrd v)) z) : wm_L_order (nI v) z (tq_wi g) := by
  unfold wm_L_order
  have s : st1 (nI v) v := ⟨h1, h6, rfl⟩
  refine sc_order (fun q => absurd s (q v)) (fun v' s' => Or.inl ⟨_, rfl, ⟨_, rfl, ?_⟩⟩)
  have e := st1_u s s'
  subst e
  exact k
theorem sL_rule {v i : Nat} (s : st3 (nI v) (nI (i + 1)) v i) (hh : gA c w h r S b p bk pk u z) (k : ∀ z', gA c w h r S b p bk pk u z' → ctx z' (tn (decide (sF v (i + 1) < 0)) (sF v (i + 1)).natAbs) → g (nI (tn (decide (sF v (i + 1) < 0)) (sF v (i + 1)).natAbs).length) z') : wm_L_rule (nI v) (nI (i + 1)) z (tq_wi g) := by
  unfold wm_L_rule
  have s1 : st1 (nI v) v := ⟨s.1, s.2.1, rfl⟩
  refine sc_rule (fun q => absurd s1 (q v)) (fun v' s' q => ?_) (fun v' i' s' z' f t => Or.inl ⟨_, rfl, ⟨_, rfl, ?_⟩⟩)
  · have e := st1_u s1 s'
    subst e
    exact absurd s (q i)
  · obtain ⟨e1, e2⟩ := st3_u s s'
    subst e1; subst e2
    exact k z' (gA_f f (by decide) hh) t
theorem sL_ruleNo {v i : Nat} (h1 : 1 ≤ v) (h6 : v ≤ 6) (hi : i < 100) (no : sOrd v ≤ i) (k : g (-900002) z) : wm_L_rule (nI v) (nI (i + 1)) z (tq_wi g) := by
  unfold wm_L_rule
  have s1 : st1 (nI v) v := ⟨h1, h6, rfl⟩
  have so := sOrd_b h1 h6
  have none : ∀ v' i', st3 (nI v) (nI (i + 1)) v' i' → False := by
    rintro v' i' ⟨a1, a2, a3, a4, a5⟩
    have so' := sOrd_b a1 a2
    have e1 : v = v' := nI_u (by omega) (by omega) a4
    subst e1
    have e2 : i + 1 = i' + 1 := nI_u (by omega) (by omega) a5
    omega
  refine sc_rule (fun q => absurd s1 (q v)) (fun v' s' q => Or.inr (Or.inr ⟨rfl, ⟨_, rfl, k⟩⟩)) (fun v' i' s' => absurd s' (fun s' => none _ _ s'))
theorem sL_strip {v n : Nat} (h1 : 1 ≤ v) (h6 : v ≤ 6) (hn : n ≤ 300) (hh : gA c w h r S b p bk pk u z) (k : ∀ z', gA c w h r S b p bk pk u z' → ctx z' (tn false (sN v n)) → g (nI (tn false (sN v n)).length) z') : wm_L_strip (nI v) (nI n) z (tq_wi g) := by
  unfold wm_L_strip
  have s : st2 (nI v) (nI n) v n := ⟨h1, h6, hn, rfl, rfl⟩
  refine sc_strip (fun q => absurd s (q v n)) (fun v' n' s' z' f t => Or.inl ⟨_, rfl, ⟨_, rfl, ?_⟩⟩)
  obtain ⟨e1, e2⟩ := st2_u s s'
  subst e1; subst e2
  exact k z' (gA_f f (by decide) hh) t
theorem sL_hexagon {A B C : Nat} (hA : 1 ≤ A ∧ A ≤ 8) (hB : 1 ≤ B ∧ B ≤ 8) (hC : 1 ≤ C ∧ C ≤ 8) (hh : gA c w h r S b p bk pk u z) (k : ∀ z', gA c w h r S b p bk pk u z' → ctx z' (tn false (hps A B C)) → g (nI (tn false (hps A B C)).length) z') : wm_L_hexagon (nI A) (nI B) (nI C) z (tq_wi g) := by
  unfold wm_L_hexagon
  have s : h3 (nI A) (nI B) (nI C) A B C := ⟨hA.1, hA.2, hB.1, hB.2, hC.1, hC.2, rfl, rfl, rfl⟩
  refine sc_hexagon (fun q => absurd s (q A B C)) (fun a b c s' z' f t => Or.inl ⟨_, rfl, ⟨_, rfl, ?_⟩⟩)
  obtain ⟨e1, e2, e3⟩ := h3_u s s'
  subst e1; subst e2; subst e3
  exact k z' (gA_f f (by decide) hh) t
theorem sL_heaps {A B C : Nat} (hA : 1 ≤ A ∧ A ≤ 8) (hB : 1 ≤ B ∧ B ≤ 8) (hC : 1 ≤ C ∧ C ≤ 8) (hh : gA c w h r S b p bk pk u z) (k : ∀ z', gA c w h r S b p bk pk u z' → ctx z' (tn false (hps A B C)) → g (nI (tn false (hps A B C)).length) z') : wm_L_heaps (nI A) (nI B) (nI C) z (tq_wi g) := by
  unfold wm_L_heaps
  have s : h3 (nI A) (nI B) (nI C) A B C := ⟨hA.1, hA.2, hB.1, hB.2, hC.1, hC.2, rfl, rfl, rfl⟩
  refine sc_heaps (fun q => absurd s (q A B C)) (fun a b c s' z' f t => Or.inl ⟨_, rfl, ⟨_, rfl, ?_⟩⟩)
  obtain ⟨e1, e2, e3⟩ := h3_u s s'
  subst e1; subst e2; subst e3
  exact k z' (gA_f f (by decide) hh) t
theorem tdv_Z (F : Int) : tdv (decide (F < 0)) F.natAbs = Int64.ofInt F := by
  unfold tdv
  by_cases q : F < 0
  · rw [decide_eq_true q, if_pos rfl]
    have e : F = -((F.natAbs : Nat) : Int) := by omega
    have : Int64.ofInt F = -(Int64.ofInt ((F.natAbs : Nat) : Int)) := by rw [← Int64.ofInt_neg, ← e]
    rw [this, Int64.ofInt_eq_ofNat]
    rfl
  · rw [decide_eq_false q, if_neg Bool.false_ne_true]
    have e : F = ((F.natAbs : Nat) : Int) := by omega
    have : Int64.ofInt F = Int64.ofInt ((F.natAbs : Nat) : Int) := by rw [← e]
    rw [this, Int64.ofInt_eq_ofNat]
    rfl
theorem lN_Z (n : Nat) : lN n = Int64.ofInt (n : Int) := Int64.ofInt_eq_ofNat.symm
/-- the rule's sum, term by term -/
def pssm (v n : Nat) : Nat → Int
  | 0 => 0
  | j + 1 => pssm v n j + sF v (j + 1) * (sN v (n - (j + 1)) : Nat)
theorem pssm_ok : ∀ v : Fin 7, ∀ e : Fin 8, 1 ≤ v.val → 1 ≤ sOrd v.val ∧ pssm v.val (sOrd v.val + e.val) (sOrd v.val) = ((sN v.val (sOrd v.val + e.val) : Nat) : Int) ∧ ¬ Int64.ofInt (sF v.val (sOrd v.val)) = 0 := by decide +kernel
theorem hps_3 : ∀ a b c : Fin 4, hps (c.val + 1) (a.val + 1) (b.val + 1) = hps (a.val + 1) (b.val + 1) (c.val + 1) ∧ hps (b.val + 1) (a.val + 1) (c.val + 1) = hps (a.val + 1) (b.val + 1) (c.val + 1) := by decide +kernel
theorem st_129 (hX : 1700 ≤ X) (hh : gA c w h r S b p bk pk u z) (k : ∀ z', gA c w h r S b p bk pk u z' → g 1 z') : wc_L_strips_129 (tq_wi g) 1 X z := by
  unfold wc_L_strips_129
  rw [i_4, i_1]
  refine sL_rnd (by omega) (by omega) (fun A z1 hA f1 v1 q1 => ?_)
  refine sL_rnd (by omega) (by omega) (fun B z2 hB f2 v2 q2 => ?_)
  refine sL_rnd (by omega) (by omega) (fun C z3 hC f3 v3 q3 => ?_)
  have h3 := gA_f f3 (by decide) (gA_f f2 (by decide) (gA_f f1 (by decide) hh))
  rw [i_add, Nat.add_comm] at q1 q2 q3
  subst q1; subst q2; subst q3
  obtain ⟨e1, e2⟩ := hps_3 ⟨A, hA⟩ ⟨B, hB⟩ ⟨C, hC⟩
  have e1 : hps (C + 1) (A + 1) (B + 1) = hps (A + 1) (B + 1) (C + 1) := e1
  have e2 : hps (B + 1) (A + 1) (C + 1) = hps (A + 1) (B + 1) (C + 1) := e2
  refine ⟨X - 1, by omega, sL_hexagon (by omega) (by omega) (by omega) h3 (fun z4 h4 t4 => ⟨X - 401, by omega, sq_told (neg := false) t4 ⟨fun e => absurd e (by decide +kernel), fun _ => ?_⟩⟩)⟩
  refine ⟨X - 402, by omega, sL_heaps (by omega) (by omega) (by omega) h4 (fun z5 h5 t5 => ⟨X - 802, by omega, sq_told (neg := false) t5 ⟨fun e => absurd rfl e, fun _ => ?_⟩⟩)⟩
  refine ⟨X - 803, by omega, sL_hexagon (by omega) (by omega) (by omega) h5 (fun z6 h6 t6 => ⟨X - 1203, by omega, sq_told (neg := false) t6 ⟨fun e => absurd (by rw [e1]) e, fun _ => ?_⟩⟩)⟩
  exact ⟨X - 1204, by omega, sL_heaps (by omega) (by omega) (by omega) h6 (fun z7 h7 t7 => ⟨X - 1604, by omega, sq_told (neg := false) t7 ⟨fun e => absurd (by rw [e2]) e, fun _ => ⟨_, rfl, k z7 h7⟩⟩⟩)⟩
theorem sL_strips (hh : gA c w h r S b p bk pk u z) (k : ∀ z', gA c w h r S b p bk pk u z' → g 1 z') : wm_L_strips z (tq_wi g) := by
  unfold wm_L_strips
  rw [i_6, i_1]
  refine sL_rnd (by omega) (by omega) (fun v0 z1 hv0 f1 v3 q3 => ?_)
  have h1 := gA_f f1 (by decide) hh
  rw [i_add, Nat.add_comm] at q3
  subst q3
  obtain ⟨v, ev⟩ : ∃ v, v = v0 + 1 := ⟨_, rfl⟩
  rw [← ev]
  have v1 : 1 ≤ v := by omega
  have v6 : v ≤ 6 := by omega
  have so := sOrd_b v1 v6
  refine ⟨59999, rfl, sL_order v1 v6 ?_⟩
  rw [i_8]
  refine sL_rnd (by omega) (by omega) (fun e z2 he f2 v9 q9 => ?_)
  have h2 := gA_f f2 (by decide) h1
  rw [i_add] at q9
  subst q9
  obtain ⟨o1, ps, nz⟩ := pssm_ok ⟨v, by omega⟩ ⟨e, he⟩ v1
  have o1 : 1 ≤ sOrd v := o1
  have ps : pssm v (sOrd v + e) (sOrd v) = ((sN v (sOrd v + e) : Nat) : Int) := ps
  have nz : ¬ Int64.ofInt (sF v (sOrd v)) = 0 := nz
  have o8 : sOrd v ≤ 8 := by
    have : ∀ v : Fin 7, sOrd v.val ≤ 8 := by decide +kernel
    exact this ⟨v, by omega⟩
  generalize hD : sOrd v = D at *
  unfold wc_L_strips_31
  refine lp_inv (fun i s => ∃ X z', s = (Int64.ofInt (pssm v (D + e) i), nI (1 + i), X, z') ∧ 59999 ≤ X + 802 * i ∧ gA c w h r S b p bk pk u z') D ?_ ⟨59999, z2, rfl, by omega, h2⟩
  rintro i s hi ⟨X, z3, rfl, hX, h3⟩ B hB
  simp only
  unfold wb_L_strips_31
  rw [i_lt (by omega) (by omega)]
  refine ⟨fun q => ?_, fun q => ?_⟩
  · have ei : i = D := by omega
    subst ei
    rw [ps]
    unfold wc_L_strips_74
    rw [i_1, i_lt (by omega) (by omega)]
    refine ⟨fun q => by omega, fun _ => ⟨X - 1, by omega, sL_strip v1 v6 (by omega) h3 (fun z4 h4 t4 => ⟨X - 401, by omega, sq_told (neg := false) t4 ⟨fun e2 => absurd (lN_Z _).symm e2, fun _ => ⟨X - 402, by omega, ?_⟩⟩⟩)⟩⟩
    rw [i_add]
    refine sL_ruleNo v1 v6 (by omega) (by omega) ⟨fun e2 => absurd rfl e2, fun _ => ⟨X - 403, by omega, ?_⟩⟩
    obtain ⟨D', eD⟩ : ∃ D', i = D' + 1 := ⟨i - 1, by omega⟩
    rw [eD]
    refine sL_rule ⟨v1, v6, by omega, rfl, rfl⟩ h4 (fun z5 h5 t5 => ⟨X - 803, by omega, sq_told t5 ⟨fun e2 => ?_, fun _ => st_129 (by omega) h5 k⟩⟩)
    rw [tdv_Z, ← eD] at e2
    exact absurd e2 nz
  · have hlt : i < D := by omega
    refine ⟨X - 1, by omega, ?_⟩
    rw [Nat.add_comm 1 i]
    refine sL_rule ⟨v1, v6, by omega, rfl, rfl⟩ h3 (fun z4 h4 t4 => ⟨X - 401, by omega, sq_told t4 ⟨X - 402, by omega, ?_⟩⟩)
    rw [pk_sub (by omega)]
    refine sL_strip v1 v6 (by omega) h4 (fun z5 h5 t5 => ⟨X - 802, by omega, sq_told (neg := false) t5 (fun v1' q1 v2' q2 => ?_)⟩)
    refine hB hlt _ ⟨X - 802, z5, ?_, by omega, h5⟩
    rw [q1, q2, tdv_Z]
    show (Int64.ofInt (pssm v (D + e) i) + Int64.ofInt (sF v (i + 1)) * lN (sN v (D + e - (i + 1))), _, _, _) = _
    rw [lN_Z, ← Int64.ofInt_mul, ← Int64.ofInt_add, i_1, i_add, Nat.add_comm 1 (i + 1)]
    all_goals rfl
end GE
