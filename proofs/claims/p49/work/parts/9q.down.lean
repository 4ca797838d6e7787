section FLD
variable {w h : Nat} {S : Nat → Bool} {G : (Nat → Nat) → Nat → Int} {p q : Nat → Nat}
theorem mx_ex (f : Nat → Int) (P : Nat → Prop) : ∀ n, (∃ v, v < n ∧ P v) → ∃ v, v < n ∧ P v ∧ ∀ u, u < n → P u → f u ≤ f v
  | 0, ⟨v, hv, _⟩ => absurd hv (Nat.not_lt_zero _)
  | n + 1, ⟨v, hv, hp⟩ => by
    by_cases q : ∃ v, v < n ∧ P v
    · obtain ⟨u, u1, u2, u3⟩ := mx_ex f P n q
      by_cases q2 : P n ∧ f u < f n
      · refine ⟨n, by omega, q2.1, fun k hk hP => ?_⟩
        by_cases q3 : k = n
        · rw [q3]; exact Int.le_refl _
        · have := u3 k (by omega) hP
          omega
      · refine ⟨u, by omega, u2, fun k hk hP => ?_⟩
        by_cases q3 : k = n
        · subst q3
          refine Int.not_lt.mp fun e => q2 ⟨hP, e⟩
        · exact u3 k (by omega) hP
    · have hvn : v = n := Classical.byContradiction fun e => q ⟨v, by omega, hp⟩
      subst hvn
      refine ⟨v, by omega, hp, fun k hk hP => ?_⟩
      by_cases q3 : k = v
      · rw [q3]; exact Int.le_refl _
      · exact absurd ⟨k, by omega, hP⟩ q
theorem vl_tf : vl true false = 1 := rfl
theorem vl_tt : vl true true = -3 := rfl
theorem vl_ff : vl false false = -1 := rfl
theorem vl_ft : vl false true = 3 := rfl
theorem vl_4 (d c c' : Bool) : (vl d c - vl d c') % 4 = 0 := by cases d <;> cases c <;> cases c' <;> decide
theorem vl_i {d c c' : Bool} (e : vl d c = vl d c') : c = c' := by
  revert e
  cases d <;> cases c <;> cases c' <;> decide
theorem df_4 (hf : fam w h S G) (hp : pc w false S p) (hq : pc w false S q) : ∀ x y, x ≤ w → y ≤ h → df G p q x y % 4 = 0
  | 0, 0, _, _ => by rw [df_00 hf hp hq]; rfl
  | x + 1, 0, hx, hy => by
    have i := df_4 hf hp hq x 0 (by omega) hy
    have s := df_h hf hp hq (x := x) (y := 0) (by omega) hy
    have e : (ho0 S p (x + 1) 0 - ho0 S q (x + 1) 0) % 4 = 0 := vl_4 _ _ _
    omega
  | x, y + 1, hx, hy => by
    have i := df_4 hf hp hq x y hx (by omega)
    have s := df_v hf hp hq (x := x) (y := y) hx (by omega)
    have e : (ve0 w S p x (y + 1) - ve0 w S q x (y + 1)) % 4 = 0 := vl_4 _ _ _
    omega
/-- the four sides at a corner among four cells -/
theorem cor4 (hd : jd w h false S) (hf : fam w h S G) (hp : pc w false S p) {x y a : Nat} (ha : a = 8 * (y - 1) + (x - 1)) (hx1 : 1 ≤ x) (hx : x < w) (hy1 : 1 ≤ y) (hy : y < h) (b1 : bx S x y = true) (b2 : bx S (x + 1) y = true) (b3 : bx S x (y + 1) = true) : G p (9 * y + (x + 1)) - G p (9 * y + x) = vl (decide ((x + 1 + y) % 2 = 0)) (decide (p (a + 1) = a + 9)) ∧ G p (9 * y + x) - G p (9 * y + (x - 1)) = vl (decide ((x + y) % 2 = 0)) (decide (p a = a + 8)) ∧ G p (9 * (y + 1) + x) - G p (9 * y + x) = vl (decide ((x + (y + 1)) % 2 = 1)) (decide (p (a + 8) = a + 9)) ∧ G p (9 * y + x) - G p (9 * (y - 1) + x) = vl (decide ((x + y) % 2 = 1)) (decide (p a = a + 1)) := by
  have hw8 := hd.2.1
  have hh8 := hd.2.2.2.1
  obtain ⟨⟨P1, P2⟩, -⟩ := hf.1 p hp
  refine ⟨?_, ?_, ?_, ?_⟩
  · have := P1 (x + 1) y (by omega) (by omega) (by omega) (Or.inl b2)
    rw [Nat.add_sub_cancel] at this
    rw [this]
    unfold ho0 Dp
    rw [b2, Bool.true_and, show 8 * (y - 1) + (x + 1 - 1) = a + 1 by omega]
  · have := P1 x y hx1 (by omega) (by omega) (Or.inl b1)
    rw [this]
    unfold ho0 Dp
    rw [b1, Bool.true_and, ← ha]
  · have := P2 x (y + 1) (by omega) (by omega) (by omega) (Or.inl b3)
    rw [Nat.add_sub_cancel] at this
    rw [this]
    unfold ve0
    rw [b3, Bool.true_and, show 8 * (y + 1 - 1) + (x - 1) = a + 8 by omega, Rp_f, decide_eq_true (show (a + 8) % 8 + 1 < w by omega), Bool.true_and]
  · have := P2 x y (by omega) hy1 (by omega) (Or.inl b1)
    rw [this]
    unfold ve0
    rw [b1, Bool.true_and, ← ha, Rp_f, decide_eq_true (show a % 8 + 1 < w by omega), Bool.true_and]
theorem top_flip (hd : jd w h false S) (hf : fam w h S G) (hp : pc w false S p) (hq : pc w false S q) {x y a : Nat} (ha : a = 8 * (y - 1) + (x - 1)) (hx1 : 1 ≤ x) (hx : x < w) (hy1 : 1 ≤ y) (hy : y < h) (b1 : bx S x y = true) (b2 : bx S (x + 1) y = true) (b3 : bx S x (y + 1) = true) (h0 : 0 < df G p q x y) (hm : ∀ x' y', x' ≤ w → y' ≤ h → 0 < df G p q x' y' → G p (9 * y' + x') ≤ G p (9 * y + x)) : ((x + y) % 2 = 1 ∧ p a = a + 8 ∧ p (a + 1) = a + 9) ∨ ((x + y) % 2 = 0 ∧ p a = a + 1 ∧ p (a + 8) = a + 9) := by
  obtain ⟨c1, c2, c3, c4⟩ := cor4 hd hf hp ha hx1 hx hy1 hy b1 b2 b3
  obtain ⟨d1, d2, d3, d4⟩ := cor4 hd hf hq ha hx1 hx hy1 hy b1 b2 b3
  have mR := hm (x + 1) y (by omega) (by omega)
  have mL := hm (x - 1) y (by omega) (by omega)
  have mD := hm x (y + 1) (by omega) (by omega)
  have mU := hm x (y - 1) (by omega) (by omega)
  unfold df at h0 mR mL mD mU
  rcases (by omega : (x + y) % 2 = 1 ∨ (x + y) % 2 = 0) with par | par
  · refine Or.inl ⟨par, ?_, ?_⟩
    · refine Classical.byContradiction fun e => ?_
      rw [decide_eq_false e, decide_eq_false (show ¬ (x + y) % 2 = 0 by omega), vl_ff] at c2
      rw [decide_eq_false (show ¬ (x + y) % 2 = 0 by omega)] at d2
      cases hb : decide (q a = a + 8) <;> rw [hb] at d2
      · rw [vl_ff] at d2; omega
      · rw [vl_ft] at d2; omega
    · refine Classical.byContradiction fun e => ?_
      rw [decide_eq_false e, decide_eq_true (show (x + 1 + y) % 2 = 0 by omega), vl_tf] at c1
      rw [decide_eq_true (show (x + 1 + y) % 2 = 0 by omega)] at d1
      cases hb : decide (q (a + 1) = a + 9) <;> rw [hb] at d1
      · rw [vl_tf] at d1; omega
      · rw [vl_tt] at d1; omega
  · refine Or.inr ⟨par, ?_, ?_⟩
    · refine Classical.byContradiction fun e => ?_
      rw [decide_eq_false e, decide_eq_false (show ¬ (x + y) % 2 = 1 by omega), vl_ff] at c4
      rw [decide_eq_false (show ¬ (x + y) % 2 = 1 by omega)] at d4
      cases hb : decide (q a = a + 1) <;> rw [hb] at d4
      · rw [vl_ff] at d4; omega
      · rw [vl_ft] at d4; omega
    · refine Classical.byContradiction fun e => ?_
      rw [decide_eq_false e, decide_eq_true (show (x + (y + 1)) % 2 = 1 by omega), vl_tf] at c3
      rw [decide_eq_true (show (x + (y + 1)) % 2 = 1 by omega)] at d3
      cases hb : decide (q (a + 8) = a + 9) <;> rw [hb] at d3
      · rw [vl_tf] at d3; omega
      · rw [vl_tt] at d3; omega
/-- the pieces of a block lie across -/
def fH (a : Nat) (p : Nat → Nat) (j : Nat) : Nat := if j = a then a + 1 else if j = a + 1 then a else if j = a + 8 then a + 9 else if j = a + 9 then a + 8 else p j
/-- the pieces of a block lie down -/
def fV (a : Nat) (p : Nat → Nat) (j : Nat) : Nat := if j = a then a + 8 else if j = a + 8 then a else if j = a + 1 then a + 9 else if j = a + 9 then a + 1 else p j
theorem nb_a1 {w a : Nat} (h : a % 8 + 1 < w) : nb w false (a + 1) a = true := nb_s (nb_right h)
theorem pc_fH {a : Nat} (hp : pc w false S p) (hS0 : S a = true) (hS1 : S (a + 1) = true) (hS8 : S (a + 8) = true) (hS9 : S (a + 9) = true) (ha : a % 8 + 1 < w) (e1 : p a = a + 8) (e2 : p (a + 1) = a + 9) : pc w false S (fH a p) := by
  have e3 : p (a + 8) = a := by rw [← e1]; exact (hp a hS0).2.1
  have e4 : p (a + 9) = a + 1 := by rw [← e2]; exact (hp _ hS1).2.1
  intro j hj
  obtain ⟨i1, i2, i3⟩ := hp j hj
  unfold fH
  by_cases q1 : j = a
  · subst q1
    rw [if_pos rfl, if_neg (by omega), if_pos rfl]
    exact ⟨hS1, rfl, nb_right ha⟩
  · rw [if_neg q1]
    by_cases q2 : j = a + 1
    · subst q2
      rw [if_pos rfl, if_pos rfl]
      exact ⟨hS0, rfl, nb_a1 ha⟩
    · rw [if_neg q2]
      by_cases q3 : j = a + 8
      · subst q3
        rw [if_pos rfl, if_neg (by omega), if_neg (by omega), if_neg (by omega), if_pos rfl]
        exact ⟨hS9, rfl, nb_right (by omega)⟩
      · rw [if_neg q3]
        by_cases q4 : j = a + 9
        · subst q4
          rw [if_pos rfl, if_neg (by omega), if_neg (by omega), if_pos rfl]
          exact ⟨hS8, rfl, nb_a1 (a := a + 8) (by omega)⟩
        · rw [if_neg q4]
          have n1 : p j ≠ a := fun e => by rw [e, e1] at i2; omega
          have n2 : p j ≠ a + 1 := fun e => by rw [e, e2] at i2; omega
          have n3 : p j ≠ a + 8 := fun e => by rw [e, e3] at i2; omega
          have n4 : p j ≠ a + 9 := fun e => by rw [e, e4] at i2; omega
          rw [if_neg n1, if_neg n2, if_neg n3, if_neg n4]
          exact ⟨i1, i2, i3⟩
theorem pc_fV {a : Nat} (hp : pc w false S p) (hS0 : S a = true) (hS1 : S (a + 1) = true) (hS8 : S (a + 8) = true) (hS9 : S (a + 9) = true) (e1 : p a = a + 1) (e2 : p (a + 8) = a + 9) : pc w false S (fV a p) := by
  have e3 : p (a + 1) = a := by rw [← e1]; exact (hp a hS0).2.1
  have e4 : p (a + 9) = a + 8 := by rw [← e2]; exact (hp _ hS8).2.1
  intro j hj
  obtain ⟨i1, i2, i3⟩ := hp j hj
  unfold fV
  by_cases q1 : j = a
  · subst q1
    rw [if_pos rfl, if_neg (by omega), if_pos rfl]
    exact ⟨hS8, rfl, nb_down⟩
  · rw [if_neg q1]
    by_cases q2 : j = a + 8
    · subst q2
      rw [if_pos rfl, if_pos rfl]
      exact ⟨hS0, rfl, nb_s nb_down⟩
    · rw [if_neg q2]
      by_cases q3 : j = a + 1
      · subst q3
        rw [if_pos rfl, if_neg (by omega), if_neg (by omega), if_neg (by omega), if_pos rfl]
        exact ⟨hS9, rfl, nb_down (i := a + 1)⟩
      · rw [if_neg q3]
        by_cases q4 : j = a + 9
        · subst q4
          rw [if_pos rfl, if_neg (by omega), if_neg (by omega), if_pos rfl]
          exact ⟨hS1, rfl, nb_s (nb_down (i := a + 1))⟩
        · rw [if_neg q4]
          have n1 : p j ≠ a := fun e => by rw [e, e1] at i2; omega
          have n2 : p j ≠ a + 1 := fun e => by rw [e, e3] at i2; omega
          have n3 : p j ≠ a + 8 := fun e => by rw [e, e2] at i2; omega
          have n4 : p j ≠ a + 9 := fun e => by rw [e, e4] at i2; omega
          rw [if_neg n1, if_neg n3, if_neg n2, if_neg n4]
          exact ⟨i1, i2, i3⟩
theorem rect_eq {f g : Nat → Nat → Int} (h0 : f 0 0 = g 0 0) (h1 : ∀ x y, x < w → y ≤ h → f (x + 1) y - f x y = g (x + 1) y - g x y) (h2 : ∀ x y, x ≤ w → y < h → f x (y + 1) - f x y = g x (y + 1) - g x y) : ∀ x y, x ≤ w → y ≤ h → f x y = g x y
  | 0, 0, _, _ => h0
  | x + 1, 0, hx, hy => by
    have i := rect_eq h0 h1 h2 x 0 (by omega) hy
    have s := h1 x 0 (by omega) hy
    omega
  | x, y + 1, hx, hy => by
    have i := rect_eq h0 h1 h2 x y hx (by omega)
    have s := h2 x y hx (by omega)
    omega
/-- two covers that differ in a block alone: how their heights differ -/
theorem df_fl (hd : jd w h false S) (hf : fam w h S G) (hp : pc w false S p) (hq : pc w false S q) {x y a : Nat} {κ : Int} (ha : a = 8 * (y - 1) + (x - 1)) (hx1 : 1 ≤ x) (hx : x < w) (hy1 : 1 ≤ y) (hy : y < h) (b1 : bx S x y = true) (b2 : bx S (x + 1) y = true) (b3 : bx S x (y + 1) = true) (hD : ∀ j, j ≠ a → j ≠ a + 1 → Dp q j = Dp p j) (hR : ∀ j, j ≠ a → j ≠ a + 8 → Rp w false q j = Rp w false p j)
    (k1 : vl (decide ((x + 1 + y) % 2 = 0)) (Dp q (a + 1)) - vl (decide ((x + 1 + y) % 2 = 0)) (Dp p (a + 1)) = -κ) (k2 : vl (decide ((x + y) % 2 = 0)) (Dp q a) - vl (decide ((x + y) % 2 = 0)) (Dp p a) = κ) (k3 : vl (decide ((x + (y + 1)) % 2 = 1)) (Rp w false q (a + 8)) - vl (decide ((x + (y + 1)) % 2 = 1)) (Rp w false p (a + 8)) = -κ) (k4 : vl (decide ((x + y) % 2 = 1)) (Rp w false q a) - vl (decide ((x + y) % 2 = 1)) (Rp w false p a) = κ) : ∀ x' y', x' ≤ w → y' ≤ h → df G q p x' y' = if x' = x ∧ y' = y then κ else 0 := by
  have hw8 := hd.2.1
  have hh8 := hd.2.2.2.1
  refine rect_eq (w := w) (h := h) (f := df G q p) (g := fun x' y' => if x' = x ∧ y' = y then κ else 0) ?_ (fun x' y' hx' hy' => ?_) (fun x' y' hx' hy' => ?_)
  · rw [df_00 hf hq hp]
    rw [if_neg (by omega)]
  · rw [df_h hf hq hp hx' hy']
    by_cases q1 : x' = x ∧ y' = y
    · rw [q1.1, q1.2, if_neg (by omega), if_pos ⟨rfl, rfl⟩]
      unfold ho0
      rw [b2, Bool.true_and, Bool.true_and, show 8 * (y - 1) + (x + 1 - 1) = a + 1 by omega, k1]
      omega
    · rw [if_neg q1]
      by_cases q2 : x' + 1 = x ∧ y' = y
      · rw [if_pos q2, q2.1, q2.2]
        unfold ho0
        rw [b1, Bool.true_and, Bool.true_and, ← ha, k2]
        omega
      · rw [if_neg q2]
        unfold ho0
        cases hb : bx S (x' + 1) y'
        · rw [Bool.false_and, Bool.false_and]; omega
        · have r := bx_rect hd.2.2.2.2.2 hb
          rw [hD _ (by omega) (by omega)]; omega
  · rw [df_v hf hq hp hx' hy']
    by_cases q1 : x' = x ∧ y' = y
    · rw [q1.1, q1.2, if_neg (by omega), if_pos ⟨rfl, rfl⟩]
      unfold ve0
      rw [b3, Bool.true_and, Bool.true_and, show 8 * (y + 1 - 1) + (x - 1) = a + 8 by omega, k3]
      omega
    · rw [if_neg q1]
      by_cases q2 : x' = x ∧ y' + 1 = y
      · rw [if_pos q2, q2.1, q2.2]
        unfold ve0
        rw [b1, Bool.true_and, Bool.true_and, ← ha, k4]
        omega
      · rw [if_neg q2]
        unfold ve0
        cases hb : bx S x' (y' + 1)
        · rw [Bool.false_and, Bool.false_and]; omega
        · have r := bx_rect hd.2.2.2.2.2 hb
          rw [hR _ (by omega) (by omega)]; omega
/-- covers whose heights are alike are alike -/
theorem df_same (hd : jd w h false S) (hf : fam w h S G) (hp : pc w false S p) (hq : pc w false S q) (h0 : ∀ x y, x ≤ w → y ≤ h → df G p q x y = 0) : ∀ j, S j = true → p j = q j := by
  have hw8 := hd.2.1
  have hh8 := hd.2.2.2.1
  have down : ∀ j, S j = true → p j = j + 8 → q j = j + 8 := fun j hj e => by
    have r := hd.2.2.2.2.2 j hj
    have s := df_h hf hp hq (x := j % 8) (y := j / 8 + 1) (by omega) (by omega)
    rw [h0 _ _ (by omega) (by omega), h0 _ _ (by omega) (by omega)] at s
    have e2 : ho0 S p (j % 8 + 1) (j / 8 + 1) = ho0 S q (j % 8 + 1) (j / 8 + 1) := by omega
    unfold ho0 at e2
    have e3 := vl_i e2
    rw [bx_c r.1, hj, Bool.true_and, Bool.true_and, show 8 * (j / 8 + 1 - 1) + (j % 8 + 1 - 1) = j by omega, Dp_d e] at e3
    unfold Dp at e3
    exact of_decide_eq_true e3.symm
  have right : ∀ j, S j = true → j % 8 + 1 < w → p j = j + 1 → q j = j + 1 := fun j hj hw e => by
    have r := hd.2.2.2.2.2 j hj
    have s := df_v hf hp hq (x := j % 8 + 1) (y := j / 8) (by omega) (by omega)
    rw [h0 _ _ (by omega) (by omega), h0 _ _ (by omega) (by omega)] at s
    have e2 : ve0 w S p (j % 8 + 1) (j / 8 + 1) = ve0 w S q (j % 8 + 1) (j / 8 + 1) := by omega
    unfold ve0 at e2
    have e3 := vl_i e2
    rw [bx_c r.1, hj, Bool.true_and, Bool.true_and, show 8 * (j / 8 + 1 - 1) + (j % 8 + 1 - 1) = j by omega, Rp_f, Rp_f, decide_eq_true hw, Bool.true_and, Bool.true_and, decide_eq_true e] at e3
    exact of_decide_eq_true e3.symm
  intro j hj
  obtain ⟨i1, i2, i3⟩ := hp j hj
  have r1 := hd.2.2.2.2.2 j hj
  have r2 := hd.2.2.2.2.2 _ i1
  have back : ∀ i, S i = true → q i = j → i = p j → p j = q j := fun i hi e1 e2 => by
    have := (hq i hi).2.1
    rw [e1] at this
    rw [this]; exact e2.symm
  unfold nb at i3
  simp only [Bool.or_eq_true, Bool.and_eq_true, decide_eq_true_eq, Bool.false_and, Bool.false_eq_true, or_false, false_and] at i3
  rcases i3 with ((i3 | i3) | i3) | i3
  · rw [down j hj i3]; exact i3
  · have := down (p j) i1 (by omega)
    exact back (p j) i1 (by omega) rfl
  · rw [right j hj i3.2 i3.1]; exact i3.1
  · have := right (p j) i1 i3.2 (by omega)
    exact back (p j) i1 (by omega) rfl
end FLD
