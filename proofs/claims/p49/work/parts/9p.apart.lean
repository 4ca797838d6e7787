section FLC
variable {w h : Nat} {S : Nat → Bool} {G : (Nat → Nat) → Nat → Int} {p q : Nat → Nat}
/-- how far two covers' heights are apart at the corner (x, y) -/
def df (G : (Nat → Nat) → Nat → Int) (p q : Nat → Nat) (x y : Nat) : Int := G p (9 * y + x) - G q (9 * y + x)
theorem df_h (hf : fam w h S G) (hp : pc w false S p) (hq : pc w false S q) {x y : Nat} (hx : x < w) (hy : y ≤ h) : df G p q (x + 1) y - df G p q x y = ho0 S p (x + 1) y - ho0 S q (x + 1) y := (hf.2 p q hp hq).1 x y hx hy
theorem df_v (hf : fam w h S G) (hp : pc w false S p) (hq : pc w false S q) {x y : Nat} (hx : x ≤ w) (hy : y < h) : df G p q x (y + 1) - df G p q x y = ve0 w S p x (y + 1) - ve0 w S q x (y + 1) := (hf.2 p q hp hq).2 x y hx hy
theorem df_00 (hf : fam w h S G) (hp : pc w false S p) (hq : pc w false S q) : df G p q 0 0 = 0 := by
  have a := (hf.1 p hp).2
  have b := (hf.1 q hq).2
  show G p 0 - G q 0 = 0
  rw [a, b]; rfl
theorem bx_out (hd : jd w h false S) {x y : Nat} (e : x = 0 ∨ y = 0 ∨ w < x ∨ h < y) : ¬ bx S x y = true := fun hb => by
  have := bx_rect hd.2.2.2.2.2 hb
  omega
theorem df_x0 (hd : jd w h false S) (hf : fam w h S G) (hp : pc w false S p) (hq : pc w false S q) : ∀ x, x ≤ w → df G p q x 0 = 0
  | 0, _ => df_00 hf hp hq
  | x + 1, hx => by
    have i := df_x0 hd hf hp hq x (by omega)
    have s := df_h hf hp hq (x := x) (y := 0) (by omega) (by omega)
    have e := ho_eq (x := x + 1) (y := 0) hd hp hq (fun u => bx_out hd (Or.inr (Or.inl rfl)) u.1)
    omega
theorem df_0y (hd : jd w h false S) (hf : fam w h S G) (hp : pc w false S p) (hq : pc w false S q) : ∀ y, y ≤ h → df G p q 0 y = 0
  | 0, _ => df_00 hf hp hq
  | y + 1, hy => by
    have i := df_0y hd hf hp hq y (by omega)
    have s := df_v hf hp hq (x := 0) (y := y) (by omega) (by omega)
    have e := ve_eq (x := 0) (y := y + 1) hd hp hq (fun u => bx_out hd (Or.inl rfl) u.1)
    omega
theorem df_xh (hd : jd w h false S) (hf : fam w h S G) (hp : pc w false S p) (hq : pc w false S q) : ∀ x, x ≤ w → df G p q x h = 0
  | 0, _ => df_0y hd hf hp hq h (Nat.le_refl _)
  | x + 1, hx => by
    have i := df_xh hd hf hp hq x (by omega)
    have s := df_h hf hp hq (x := x) (y := h) (by omega) (by omega)
    have e := ho_eq (x := x + 1) (y := h) hd hp hq (fun u => bx_out (y := h + 1) hd (Or.inr (Or.inr (Or.inr (by omega)))) u.2)
    omega
theorem df_wy (hd : jd w h false S) (hf : fam w h S G) (hp : pc w false S p) (hq : pc w false S q) : ∀ y, y ≤ h → df G p q w y = 0
  | 0, _ => df_x0 hd hf hp hq w (Nat.le_refl _)
  | y + 1, hy => by
    have i := df_wy hd hf hp hq y (by omega)
    have s := df_v hf hp hq (x := w) (y := y) (by omega) (by omega)
    have e := ve_eq (x := w) (y := y + 1) hd hp hq (fun u => bx_out (x := w + 1) hd (Or.inr (Or.inr (Or.inl (by omega)))) u.2)
    omega
theorem df_rim (hd : jd w h false S) (hf : fam w h S G) (hp : pc w false S p) (hq : pc w false S q) {x y : Nat} (hx : x ≤ w) (hy : y ≤ h) (e : x = 0 ∨ y = 0 ∨ x = w ∨ y = h) : df G p q x y = 0 := by
  rcases e with e | e | e | e
  · rw [e]; exact df_0y hd hf hp hq y hy
  · rw [e]; exact df_x0 hd hf hp hq x hx
  · rw [e]; exact df_wy hd hf hp hq y hy
  · rw [e]; exact df_xh hd hf hp hq x hx
/-- the corners of a cell that is not there are alike -/
theorem df_cell (hd : jd w h false S) (hf : fam w h S G) (hp : pc w false S p) (hq : pc w false S q) {x y : Nat} (hx : x < w) (hy : y < h) (hS : S (8 * y + x) = false) : df G p q (x + 1) y = df G p q x y ∧ df G p q x (y + 1) = df G p q x y ∧ df G p q (x + 1) (y + 1) = df G p q x y := by
  have hw8 := hd.2.1
  have hh8 := hd.2.2.2.1
  have nb0 : ¬ bx S (x + 1) (y + 1) = true := by
    rw [bx_in (by omega) (by omega) (by omega) (by omega), show 8 * (y + 1 - 1) + (x + 1 - 1) = 8 * y + x by omega, hS]; exact Bool.false_ne_true
  have s1 := df_h hf hp hq hx (show y ≤ h by omega)
  have e1 := ho_eq (x := x + 1) (y := y) hd hp hq (fun u => nb0 u.2)
  have s2 := df_v hf hp hq (show x ≤ w by omega) hy
  have e2 := ve_eq (x := x) (y := y + 1) hd hp hq (fun u => nb0 u.2)
  have s3 := df_h hf hp hq hx (show y + 1 ≤ h by omega)
  have e3 := ho_eq (x := x + 1) (y := y + 1) hd hp hq (fun u => nb0 u.1)
  omega
theorem df_mi (hd : jd w h false S) (hg : gr_n w false (mi w h S) (rim w h false) = 0) (hf : fam w h S G) (hp : pc w false S p) (hq : pc w false S q) {x y : Nat} (hx : x < w) (hy : y < h) (hS : S (8 * y + x) = false) : df G p q x y = 0 := by
  have hw8 := hd.2.1
  have hh8 := hd.2.2.2.1
  have hre := hd.2.2.2.2.2
  have hK := no_hole hd hg
  refine Classical.byContradiction fun hne => ?_
  have mit : ∀ c, mi w h S c = true ↔ c % 8 < w ∧ c / 8 < h ∧ S c = false := fun c => by
    unfold mi re_S
    simp only [Bool.and_eq_true, decide_eq_true_eq, Bool.not_eq_true']
    exact ⟨fun u => ⟨u.1.1, u.1.2, u.2⟩, fun u => ⟨⟨u.1, u.2.1⟩, u.2.2⟩⟩
  obtain ⟨X, hX⟩ : ∃ X : Nat → Bool, X = fun c => mi w h S c && !decide (df G p q (c % 8) (c / 8) = 0) := ⟨_, rfl⟩
  have Xt : ∀ c, X c = true ↔ (c % 8 < w ∧ c / 8 < h ∧ S c = false) ∧ ¬ df G p q (c % 8) (c / 8) = 0 := fun c => by
    rw [hX]
    dsimp only
    rw [Bool.and_eq_true, mit, Bool.not_eq_true', decide_eq_false_iff_not]
  obtain ⟨c, hc, hfS⟩ := hK X (fun c hc => (mit c).mpr ((Xt c).mp hc).1) ⟨8 * y + x, (Xt _).mpr ⟨⟨by omega, by omega, hS⟩, by
    rw [show (8 * y + x) % 8 = x by omega, show (8 * y + x) / 8 = y by omega]; exact hne⟩⟩
  obtain ⟨⟨c1, c2, c3⟩, c4⟩ := (Xt c).mp hc
  obtain ⟨a, b, hab, ha, hb⟩ : ∃ a b, c = 8 * b + a ∧ a < 8 ∧ b < 8 := ⟨c % 8, c / 8, by omega, by omega, by omega⟩
  rw [show c % 8 = a by omega, show c / 8 = b by omega] at c4
  rw [show c % 8 = a by omega] at c1
  rw [show c / 8 = b by omega] at c2
  have own := df_cell hd hf hp hq c1 c2 (by rw [← hab]; exact c3)
  have nbr : ∀ d, (S d = false ∧ X d = false) → d % 8 < w → d / 8 < h → df G p q (d % 8) (d / 8) = 0 := fun d hd2 h1 h2 => by
    refine Classical.byContradiction fun e => ?_
    have := (Xt d).mpr ⟨⟨h1, h2, hd2.1⟩, e⟩
    rw [hd2.2] at this; cases this
  unfold fS at hfS
  rcases hfS with u | u | u | u
  · by_cases q0 : b = 0
    · exact c4 (df_rim hd hf hp hq (by omega) (by omega) (by omega))
    · have u : S (c - 8) = false ∧ X (c - 8) = false := by rcases u with u | u; exact absurd u (by omega); exact u
      have n0 := nbr _ u (by omega) (by omega)
      have o := df_cell (x := a) (y := b - 1) hd hf hp hq c1 (by omega) (by rw [show 8 * (b - 1) + a = c - 8 by omega]; exact u.1)
      rw [show (c - 8) % 8 = a by omega, show (c - 8) / 8 = b - 1 by omega] at n0
      rw [show b - 1 + 1 = b by omega] at o
      omega
  · by_cases q0 : b + 1 = h
    · exact c4 (by rw [← own.2.1]; exact df_rim hd hf hp hq (by omega) (by omega) (by omega))
    · have u : S (c + 8) = false ∧ X (c + 8) = false := by rcases u with u | u; exact absurd u (by omega); exact u
      have n0 := nbr _ u (by omega) (by omega)
      rw [show (c + 8) % 8 = a by omega, show (c + 8) / 8 = b + 1 by omega] at n0
      omega
  · by_cases q0 : a = 0
    · exact c4 (df_rim hd hf hp hq (by omega) (by omega) (by omega))
    · have u : S (c - 1) = false ∧ X (c - 1) = false := by rcases u with u | u; exact absurd u (by omega); exact u
      have n0 := nbr _ u (by omega) (by omega)
      have o := df_cell (x := a - 1) (y := b) hd hf hp hq (by omega) c2 (by rw [show 8 * b + (a - 1) = c - 1 by omega]; exact u.1)
      rw [show (c - 1) % 8 = a - 1 by omega, show (c - 1) / 8 = b by omega] at n0
      rw [show a - 1 + 1 = a by omega] at o
      omega
  · by_cases q0 : a + 1 = w
    · exact c4 (by rw [← own.1]; exact df_rim hd hf hp hq (by omega) (by omega) (by omega))
    · have u : S (c + 1) = false ∧ X (c + 1) = false := by rcases u with u | u; exact absurd u (by omega); exact u
      have n0 := nbr _ u (by omega) (by omega)
      rw [show (c + 1) % 8 = a + 1 by omega, show (c + 1) / 8 = b by omega] at n0
      omega
/-- where the heights are apart, there are four cells around -/
theorem df_four (hd : jd w h false S) (hg : gr_n w false (mi w h S) (rim w h false) = 0) (hf : fam w h S G) (hp : pc w false S p) (hq : pc w false S q) {x y : Nat} (hx : x ≤ w) (hy : y ≤ h) (hne : df G p q x y ≠ 0) : 1 ≤ x ∧ x < w ∧ 1 ≤ y ∧ y < h ∧ bx S x y = true ∧ bx S (x + 1) y = true ∧ bx S x (y + 1) = true ∧ bx S (x + 1) (y + 1) = true := by
  have hw8 := hd.2.1
  have hh8 := hd.2.2.2.1
  have rim : ¬ (x = 0 ∨ y = 0 ∨ x = w ∨ y = h) := fun e => hne (df_rim hd hf hp hq hx hy e)
  have cell : ∀ a b, a < w → b < h → (df G p q a b = df G p q x y ∨ df G p q (a + 1) b = df G p q x y ∨ df G p q a (b + 1) = df G p q x y ∨ df G p q (a + 1) (b + 1) = df G p q x y) → bx S (a + 1) (b + 1) = true := fun a b ha hb e => by
    rw [bx_in (by omega) (by omega) (by omega) (by omega), show 8 * (b + 1 - 1) + (a + 1 - 1) = 8 * b + a by omega]
    cases hS : S (8 * b + a)
    · have z := df_mi hd hg hf hp hq ha hb hS
      have o := df_cell hd hf hp hq ha hb hS
      exact absurd (show df G p q x y = 0 by omega) hne
    · rfl
  obtain ⟨a, rfl⟩ : ∃ a, x = a + 1 := ⟨x - 1, by omega⟩
  obtain ⟨b, rfl⟩ : ∃ b, y = b + 1 := ⟨y - 1, by omega⟩
  exact ⟨by omega, by omega, by omega, by omega, cell a b (by omega) (by omega) (Or.inr (Or.inr (Or.inr rfl))), cell (a + 1) b (by omega) (by omega) (Or.inr (Or.inr (Or.inl rfl))), cell a (b + 1) (by omega) (by omega) (Or.inr (Or.inl rfl)), cell (a + 1) (b + 1) (by omega) (by omega) (Or.inl rfl)⟩
end FLC
