/-! ===== the law's counts and leftOf ===== -/
section GD
variable {c w h : Nat} {r : Bool} {S : Nat → Bool} {z : tq_S} {b bk : Bool} {p pk : Nat → Nat} {u x y X : Nat} {a : Int64} {g : Int32 → tq_S → Prop} {f9 : Int64 → tq_S → Prop} {Q : tq_O → tq_S → Prop} {B5 B15 : Int32 → Int32 → Nat → tq_S → Prop}
theorem sL_leftOf (hd : jd w h r S) (hx : x < w) (hy : y < h) (sc : S (8 * y + x) = true) (hh : gA c w h r S b p bk pk u z) (k : ∀ z' a, gA c w h r S b p bk pk u z' → posv a (nbv w r S (8 * y + x) (oLt w r x y)) → f9 a z') : wm_L_leftOf (nI x) (nI y) z (tq_wl f9) := by
  have hw8 := hd.2.1
  have hh8 := hd.2.2.2.1
  unfold wm_L_leftOf
  rw [i_0, i_le (by omega) (by omega)]
  refine ⟨fun q => ?_, fun q => ?_⟩
  · have ex : x = 0 := by omega
    subst ex
    rw [Nat.add_zero] at sc k
    unfold wc_L_leftOf_21
    rw [i_7]
    refine lp_inv (fun i s => ∃ X z', s = (nI (7 - i), X, z') ∧ 3000 ≤ X + 401 * i ∧ gA c w h r S b p bk pk u z' ∧ (r = true → w - 1 ≤ 7 - i ∨ S (8 * y + (w - 1)) = false)) 6 ?_ ⟨3000, z, rfl, by omega, hh, fun _ => Or.inl (by omega)⟩
    rintro i s hi ⟨X, z1, rfl, hX, h1, inv⟩ B hB
    simp only
    unfold wb_L_leftOf_21
    rw [i_1, i_le (by omega) (by omega)]
    refine ⟨fun e => ⟨_, rfl, k z1 _ h1 ?_⟩, fun e => ?_⟩
    · have z0 : nbv w r S (8 * y) (oLt w r 0 y) = 0 := by
        unfold nbv
        refine if_neg (fun v => ?_)
        unfold oLt at v
        rw [if_neg (by omega)] at v
        by_cases q2 : r = true
        · rw [if_pos q2] at v
          rcases inv q2 with q3 | q3
          · have := jd_r hd q2
            omega
          · rw [q3] at v
            exact Bool.false_ne_true v.1
        · rw [if_neg q2] at v
          have := jd_in hd 1000 v.1
          omega
      rw [z0]
      exact Or.inl ⟨by decide +kernel, rfl⟩
    · have next : ∀ X' z', X ≤ X' + 401 → gA c w h r S b p bk pk u z' → (r = true → w - 1 ≠ 7 - i ∨ S (8 * y + (w - 1)) = false) → wc_L_leftOf_75 (fun b3 x z => B (b3, x, z)) (tq_wl f9) (nI y) (nI (7 - i)) X' z' := by
        intro X' z' hX' h' no
        unfold wc_L_leftOf_75
        intro v1 q1
        have q1 : v1 = nI (7 - (i + 1)) := q1.trans ((i_m1 (by omega)).trans (congrArg nI (by omega)))
        subst q1
        refine hB (by omega) _ ⟨X', z', rfl, by omega, h', fun q2 => ?_⟩
        rcases no q2 with q3 | q3
        · rcases inv q2 with q4 | q4
          · exact Or.inl (by omega)
          · exact Or.inr q4
        · exact Or.inr q3
      refine sL_has h1 ?_
      rw [ho_n (by omega) (by omega)]
      obtain ⟨v, hv⟩ : ∃ v, v = (decide (7 - i < w) && decide (y < h) && S (8 * y + (7 - i))) := ⟨_, rfl⟩
      rw [← hv]
      cases v
      · refine ⟨fun _ => next X z1 (by omega) h1 (fun q2 => ?_), fun e => absurd e (by decide +kernel)⟩
        by_cases q3 : w - 1 = 7 - i
        · rw [q3]
          rw [decide_eq_true (by omega : 7 - i < w), decide_eq_true hy] at hv
          exact Or.inr hv.symm
        · exact Or.inl q3
      · refine ⟨fun e => absurd rfl e, fun _ => ?_⟩
        have hv := hv.symm
        simp only [Bool.and_eq_true, decide_eq_true_eq] at hv
        obtain ⟨⟨lw, -⟩, sl⟩ := hv
        refine sL_havT h1 (by omega) (fun z2 a h2 ha => ⟨fun e2 => ?_, fun e2 => ?_⟩)
        · refine next _ z2 (by omega) h2 (fun q2 => ?_)
          by_cases q3 : w - 1 = 7 - i
          · exfalso
            have w4 := jd_r hd q2
            have ea := hres_v (o := 8 * y) hw8 hh8 ha lw hy sl (by
              rw [if_neg (by decide +kernel)]
              unfold bs
              rw [if_pos rfl, if_neg (by omega), if_pos q2]
              congr 1; omega) sc
            rw [ea, l_0, l_ltN (by have := rm_b (i := 8 * y + (7 - i)) (j := 8 * y) hd; omega) (by omega)] at e2
            omega
          · exact Or.inl q3
        · refine sL_has h2 ?_
          rw [i_add, ho_n (by omega) (by omega)]
          obtain ⟨v2, hv2⟩ : ∃ v2, v2 = (decide (7 - i + 1 < w) && decide (y < h) && S (8 * y + (7 - i + 1))) := ⟨_, rfl⟩
          rw [← hv2]
          cases v2
          · refine ⟨fun e => absurd rfl e, fun _ => ?_⟩
            -- it is the round piece
            have rd : r = true ∧ w - 1 = 7 - i := by
              by_cases q2 : r = true
              · refine ⟨q2, ?_⟩
                by_cases q3 : 7 - i + 1 < w
                · exfalso
                  rw [decide_eq_true q3, decide_eq_true hy] at hv2
                  have ea := hres_n hw8 hh8 (by omega) (by omega) ha (fun o e3 e4 e5 => by
                    rw [if_neg (by decide +kernel)] at e4
                    unfold bs at e4
                    rw [if_pos rfl, if_pos (by omega)] at e4
                    cases e4
                    rw [show 8 * y + (7 - i) + 1 = 8 * y + (7 - i + 1) by omega] at e5
                    rw [e5] at hv2
                    exact Bool.false_ne_true hv2)
                  exact e2 (by rw [ea]; decide +kernel)
                · omega
              · exfalso
                have ea := hres_n hw8 hh8 (by omega) (by omega) ha (fun o e3 e4 e5 => by
                  rw [if_neg (by decide +kernel)] at e4
                  unfold bs at e4
                  rw [if_pos rfl] at e4
                  by_cases q3 : 7 - i + 1 < w
                  · rw [if_pos (by omega)] at e4
                    cases e4
                    rw [show 8 * y + (7 - i) + 1 = 8 * y + (7 - i + 1) by omega] at e5
                    rw [decide_eq_true q3, decide_eq_true hy, e5] at hv2
                    exact Bool.false_ne_true hv2
                  · rw [if_neg (by omega), if_neg q2] at e4
                    cases e4)
                exact e2 (by rw [ea]; decide +kernel)
            obtain ⟨q2, q3⟩ := rd
            unfold wc_L_leftOf_63
            refine sL_havT h2 (by omega) (fun z3 a3 h3 ha3 => ⟨_, rfl, k z3 a3 h3 ?_⟩)
            rw [← q3] at ha3
            have e9 : oLt w r 0 y = 8 * y + (w - 1) := by unfold oLt; rw [if_neg (by omega), if_pos q2]
            rw [e9]
            exact val_O hd q2 hy sc ha3
          · have hv2 := hv2.symm
            simp only [Bool.and_eq_true, decide_eq_true_eq] at hv2
            obtain ⟨⟨l9, -⟩, -⟩ := hv2
            exact ⟨fun _ => next _ z2 (by omega) h2 (fun _ => Or.inl (by omega)), fun e => absurd e (by decide +kernel)⟩
  · rw [i_1, pk_sub (by omega)]
    exact sL_havT hh (by omega) (fun z2 a h2 ha => ⟨_, rfl, k z2 a h2 (val_L hd hx hy (by omega) sc ha)⟩)
def nbo (w : Nat) (r : Bool) (x y : Nat) : Nat → Nat
  | 0 => oRt w r x y
  | 1 => 8 * y + x + 8
  | 2 => oLt w r x y
  | _ => oUp x y
def cstp : Nat → Nat
  | 0 => 0
  | 1 => 401
  | 2 => 802
  | 3 => 3802
  | _ => 4203
/-- one cell -/
theorem ct_cell {T : Nat} (hT : T = cv_T w r 0 S) (hd : jd w h r S) (hx : x < w) (hy : y < h) (sc : S (8 * y + x) = true) (hX : 4300 ≤ X) (hh : gA c w h r S b p bk pk u z) (k : ∀ X' z', X ≤ X' + 4300 → gA c w h r S b p bk pk u z' → B15 1 (nI (x + 1)) X' z') : wc_L_counts_40 B5 B15 Q (lN T) 1 (nI y) (nI x) (0 : Int64) (0 : Int32) X z := by
  have hw8 := hd.2.1
  have hh8 := hd.2.2.2.1
  have f4 := four hd hx hy sc
  have tb := T_b hd
  unfold wc_L_counts_40
  refine lp_inv (fun i s => ∃ X' z', s = (lN (fb_sm (fun j => nbv w r S (8 * y + x) (nbo w r x y j)) i), nI i, X', z') ∧ X ≤ X' + cstp i ∧ gA c w h r S b p bk pk u z') 4 ?_ ⟨X, z, rfl, by omega, hh⟩
  rintro i s hi ⟨X', z1, rfl, hX', h1⟩ B hB
  simp only
  unfold wb_L_counts_40
  have add : ∀ (X2 : Nat) (z2 : tq_S) (a : Int64), i < 4 → gA c w h r S b p bk pk u z2 → X ≤ X2 + cstp (i + 1) → posv a (nbv w r S (8 * y + x) (nbo w r x y i)) → wc_L_counts_130 B5 B15 (fun b6 b8 x z => B (b6, b8, x, z)) Q (lN T) 1 (nI y) (nI x) (lN (fb_sm (fun j => nbv w r S (8 * y + x) (nbo w r x y j)) i)) (nI i) a X2 z2 := by
    intro X2 z2 a hi2 h2 hX2 pv
    unfold wc_L_counts_130
    have fin : ∀ e : Int64, e = lN (nbv w r S (8 * y + x) (nbo w r x y i)) → wc_L_counts_147 B5 B15 (fun b6 b8 x z => B (b6, b8, x, z)) Q (lN T) 1 (nI y) (nI x) (nI i) e (lN (fb_sm (fun j => nbv w r S (8 * y + x) (nbo w r x y j)) i)) X2 z2 := by
      intro e he
      unfold wc_L_counts_147
      intro v1 q1 v2 q2
      have q2 : v2 = nI (i + 1) := q2.trans (by rw [i_1, i_add])
      rw [he, l_add] at q1
      subst q1; subst q2
      exact hB hi2 _ ⟨X2, z2, rfl, hX2, h2⟩
    rcases pv with ⟨p1, p2⟩ | ⟨p1, p2⟩
    · exact ⟨fun _ => fin _ (by rw [p2]; rfl), fun e => absurd p1 e⟩
    · exact ⟨fun e => absurd e p1, fun _ => fin _ p2⟩
  rw [i_4, i_le (by omega) (by omega)]
  refine ⟨fun e => ?_, fun e => ?_⟩
  · have ei : i = 4 := by omega
    subst ei
    have es : fb_sm (fun j => nbv w r S (8 * y + x) (nbo w r x y j)) 4 = T := by
      rw [hT, f4]
      show 0 + nbv w r S (8 * y + x) (oRt w r x y) + nbv w r S (8 * y + x) (8 * y + x + 8) + nbv w r S (8 * y + x) (oLt w r x y) + nbv w r S (8 * y + x) (oUp x y) = _
      omega
    rw [es]
    unfold wc_L_counts_156
    refine ⟨fun e2 => absurd rfl e2, fun _ => ?_⟩
    unfold wc_L_counts_169
    intro v1 q1
    have q1 := q1.trans a11
    subst q1
    unfold wc_L_counts_171
    intro v2 q2
    have q2 : v2 = nI (x + 1) := q2.trans (by rw [i_1, i_add])
    subst q2
    have hX' : X ≤ X' + 4203 := hX'
    exact k X' z1 (by omega) h1
  · rcases (show i = 0 ∨ i = 1 ∨ i = 2 ∨ i = 3 by omega) with rfl | rfl | rfl | rfl
    · have hX' : X ≤ X' + 0 := hX'
      refine ⟨fun e => absurd rfl e, fun _ => sL_havT h1 (by omega) (fun z2 a h2 ha => add _ z2 a (by omega) h2 (by show X ≤ _ + 401; omega) ?_)⟩
      exact val_R hd hx hy sc ha
    · have hX' : X ≤ X' + 401 := hX'
      refine ⟨fun _ => ⟨fun e => absurd rfl e, fun _ => sL_havT h1 (by omega) (fun z2 a h2 ha => add _ z2 a (by omega) h2 (by show X ≤ _ + 802; omega) ?_)⟩, fun e => absurd e (by decide +kernel)⟩
      exact val_D hd hx hy sc ha
    · have hX' : X ≤ X' + 802 := hX'
      refine ⟨fun _ => ⟨fun _ => ⟨fun e => absurd rfl e, fun _ => ⟨X' - 3000, by omega, sL_leftOf hd hx hy sc h1 (fun z2 a h2 ha => add _ z2 a (by omega) h2 (by show X ≤ _ + 3802; omega) ha)⟩⟩, fun e => absurd e (by decide +kernel)⟩, fun e => absurd e (by decide +kernel)⟩
    · have hX' : X ≤ X' + 3802 := hX'
      refine ⟨fun _ => ⟨fun _ => ⟨fun _ => ⟨fun e2 => ?_, fun e2 => ?_⟩, fun e => absurd e (by decide +kernel)⟩, fun e => absurd e (by decide +kernel)⟩, fun e => absurd e (by decide +kernel)⟩
      · rw [i_0, i_le (by omega) (by omega)] at e2
        refine add _ z1 _ (by omega) h1 (by show X ≤ _ + 4203; omega) ?_
        have z0 : nbv w r S (8 * y + x) (oUp x y) = 0 := by
          unfold nbv oUp
          rw [if_neg (by omega : ¬ 0 < y)]
          refine if_neg (fun v => ?_)
          have := jd_in hd 1000 v.1
          omega
        show posv 0 (nbv w r S (8 * y + x) (oUp x y))
        rw [z0]
        exact Or.inl ⟨by decide +kernel, rfl⟩
      · rw [i_0, i_le (by omega) (by omega)] at e2
        rw [i_1, pk_sub (by omega)]
        exact sL_havT h1 (by omega) (fun z2 a h2 ha => add _ z2 a (by omega) h2 (by show X ≤ _ + 4203; omega) (val_U hd hx hy (by omega) sc ha))
theorem sL_counts {T : Nat} (hT : T = cv_T w r 0 S) (hd : jd w h r S) (hh : gA c w h r S b p bk pk u z) (k : ∀ z', gA c w h r S b p bk pk u z' → g 1 z') : wm_L_counts (lN T) z (tq_wi g) := by
  have hw8 := hd.2.1
  have hh8 := hd.2.2.2.1
  unfold wm_L_counts wc_L_counts_5
  refine lp_inv (fun i s => ∃ X z', s = ((1 : Int32), nI i, X, z') ∧ 300000 ≤ X + 36000 * i ∧ gA c w h r S b p bk pk u z') 8 ?_ ⟨300000, z, rfl, by omega, hh⟩
  rintro i s hi ⟨X, z1, rfl, hX, h1⟩ B hB
  simp only
  unfold wb_L_counts_5
  rw [i_8, i_le (by omega) (by omega)]
  refine ⟨fun _ => ⟨bi_z (b := true), ⟨_, rfl, k z1 h1⟩⟩, fun e => ?_⟩
  unfold wc_L_counts_15
  refine lp_inv (fun j s => ∃ X' z', s = ((1 : Int32), nI j, X', z') ∧ X ≤ X' + 4300 * j ∧ gA c w h r S b p bk pk u z') 8 ?_ ⟨X, z1, rfl, by omega, h1⟩
  rintro j s hj ⟨X', z2, rfl, hX', h2⟩ B2 hB2
  simp only
  unfold wb_L_counts_15
  rw [i_8, i_le (by omega) (by omega)]
  refine ⟨fun _ => ?_, fun e2 => ?_⟩
  · unfold wc_L_counts_177
    intro v1 q1
    have q1 : v1 = nI (i + 1) := q1.trans (by rw [i_1, i_add])
    subst q1
    exact hB (by omega) _ ⟨X', z2, rfl, by omega, h2⟩
  · refine sL_has h2 ?_
    rw [ho_n (by omega) (by omega)]
    obtain ⟨v, hv⟩ : ∃ v, v = (decide (j < w) && decide (i < h) && S (8 * i + j)) := ⟨_, rfl⟩
    rw [← hv]
    cases v
    · refine ⟨fun _ => ?_, fun e3 => absurd e3 (by decide +kernel)⟩
      unfold wc_L_counts_171
      intro v1 q1
      have q1 : v1 = nI (j + 1) := q1.trans (by rw [i_1, i_add])
      subst q1
      exact hB2 (by omega) _ ⟨X', z2, rfl, by omega, h2⟩
    · refine ⟨fun e3 => absurd rfl e3, fun _ => ?_⟩
      have hv := hv.symm
      simp only [Bool.and_eq_true, decide_eq_true_eq] at hv
      obtain ⟨⟨lw, lh⟩, sl⟩ := hv
      exact ct_cell hT hd lw lh sl (by omega) h2 (fun X2 z3 hX2 h3 => hB2 (by omega) _ ⟨X2, z3, rfl, by omega, h3⟩)
end GD
