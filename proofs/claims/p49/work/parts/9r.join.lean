section FLE
variable {w h : Nat} {S : Nat → Bool} {G : (Nat → Nat) → Nat → Int} {p q : Nat → Nat}
/-- how far two covers are from one another -/
def mu (w h : Nat) (G : (Nat → Nat) → Nat → Int) (p q : Nat → Nat) : Nat := fb_sm (fun v => if v % 9 ≤ w ∧ v / 9 ≤ h then (df G p q (v % 9) (v / 9)).natAbs else 0) 81
theorem mu_s : mu w h G p q = mu w h G q p := fb_sm_cong (fun v _ => by
  by_cases c : v % 9 ≤ w ∧ v / 9 ≤ h
  · rw [if_pos c, if_pos c]
    unfold df
    omega
  · rw [if_neg c, if_neg c])
theorem sm_lt {f g : Nat → Nat} {n k : Nat} (hk : k < n) (h : ∀ i, i < n → f i ≤ g i) (hl : f k < g k) : fb_sm f n < fb_sm g n := by
  obtain ⟨d, rfl⟩ : ∃ d, n = k + 1 + d := ⟨n - (k + 1), by omega⟩
  rw [fb_sm_split f (k + 1) d, fb_sm_split g (k + 1) d, fb_sm_succ, fb_sm_succ]
  have a := fb_sm_le (f := f) (g := g) (n := k) (fun i hi => h i (by omega))
  have b := fb_sm_le (f := fun i => f (k + 1 + i)) (g := fun i => g (k + 1 + i)) (n := d) (fun i hi => h _ (by omega))
  omega
/-- what no flip changes -/
def nofl (w : Nat) (S : Nat → Bool) (f : (Nat → Nat) → Int) : Prop := (∀ p q, pc w false S p → (∀ j, S j = true → p j = q j) → f p = f q) ∧ ∀ p a, pc w false S p → S a = true → S (a + 1) = true → S (a + 8) = true → S (a + 9) = true → a % 8 + 1 < w → p a = a + 8 → p (a + 1) = a + 9 → f (fH a p) = f p
theorem fl_step {f : (Nat → Nat) → Int} (hd : jd w h false S) (hg : gr_n w false (mi w h S) (rim w h false) = 0) (hf : fam w h S G) (hn : nofl w S f) (hp : pc w false S p) (hq : pc w false S q) (hne : ∃ x y, x ≤ w ∧ y ≤ h ∧ 0 < df G p q x y) : ∃ p', pc w false S p' ∧ f p' = f p ∧ mu w h G p' q < mu w h G p q := by
  have hw8 := hd.2.1
  have hh8 := hd.2.2.2.1
  obtain ⟨v, v81, ⟨v1, v2, v3⟩, vm⟩ := mx_ex (G p) (fun v => v % 9 ≤ w ∧ v / 9 ≤ h ∧ 0 < df G p q (v % 9) (v / 9)) 81 (by
    obtain ⟨x, y, x1, y1, e⟩ := hne
    refine ⟨9 * y + x, by omega, by omega, by omega, ?_⟩
    rw [show (9 * y + x) % 9 = x by omega, show (9 * y + x) / 9 = y by omega]; exact e)
  obtain ⟨x, y, hv, hx8, hy8⟩ : ∃ x y, v = 9 * y + x ∧ x ≤ 8 ∧ y ≤ 8 := ⟨v % 9, v / 9, by omega, by omega, by omega⟩
  rw [show v % 9 = x by omega] at v1
  rw [show v / 9 = y by omega] at v2
  rw [show v % 9 = x by omega, show v / 9 = y by omega] at v3
  obtain ⟨x1, xw, y1, yh, b1, b2, b3, b4⟩ := df_four hd hg hf hp hq v1 v2 (by omega)
  obtain ⟨a, ha⟩ : ∃ a, a = 8 * (y - 1) + (x - 1) := ⟨_, rfl⟩
  have S0 := (bx_rect hd.2.2.2.2.2 b1).2.2.2.2.2.2
  have S1 := (bx_rect hd.2.2.2.2.2 b2).2.2.2.2.2.2
  have S8 := (bx_rect hd.2.2.2.2.2 b3).2.2.2.2.2.2
  have S9 := (bx_rect hd.2.2.2.2.2 b4).2.2.2.2.2.2
  rw [← ha] at S0
  rw [show 8 * (y - 1) + (x + 1 - 1) = a + 1 by omega] at S1
  rw [show 8 * (y + 1 - 1) + (x - 1) = a + 8 by omega] at S8
  rw [show 8 * (y + 1 - 1) + (x + 1 - 1) = a + 9 by omega] at S9
  have top := top_flip hd hf hp hq ha x1 xw y1 yh b1 b2 b3 v3 (fun x' y' hx' hy' h0 => by
    have := vm (9 * y' + x') (by omega) ⟨by omega, by omega, by
      rw [show (9 * y' + x') % 9 = x' by omega, show (9 * y' + x') / 9 = y' by omega]; exact h0⟩
    rw [hv] at this; exact this)
  have less : ∀ p', pc w false S p' → (∀ x' y', x' ≤ w → y' ≤ h → df G p' p x' y' = if x' = x ∧ y' = y then -4 else 0) → mu w h G p' q < mu w h G p q := by
    intro p' hp' hk
    have d4 := df_4 hf hp hq x y v1 v2
    have at1 : ∀ x' y', df G p' q x' y' = df G p q x' y' + df G p' p x' y' := fun x' y' => by unfold df; omega
    refine sm_lt (k := v) v81 (fun i hi => ?_) ?_
    · by_cases c : i % 9 ≤ w ∧ i / 9 ≤ h
      · rw [if_pos c, if_pos c, at1, hk _ _ c.1 c.2]
        by_cases c2 : i % 9 = x ∧ i / 9 = y
        · rw [if_pos c2, c2.1, c2.2]; omega
        · rw [if_neg c2]; omega
      · rw [if_neg c, if_neg c]; exact Nat.le_refl _
    · have c : v % 9 ≤ w ∧ v / 9 ≤ h := by omega
      rw [if_pos c, if_pos c, at1, hk _ _ c.1 c.2, if_pos (by omega), show v % 9 = x by omega, show v / 9 = y by omega]
      omega
  have sw9 : a + 1 + 8 = a + 9 := by omega
  rcases top with ⟨par, e1, e2⟩ | ⟨par, e1, e2⟩
  · have hp' := pc_fH hp S0 S1 S8 S9 (by omega) e1 e2
    have e3 : p (a + 8) = a := by rw [← e1]; exact (hp a S0).2.1
    have e4 : p (a + 9) = a + 1 := by rw [← e2]; exact (hp _ S1).2.1
    have f0 : fH a p a = a + 1 := if_pos rfl
    have f1 : fH a p (a + 1) = a := by unfold fH; rw [if_neg (by omega), if_pos rfl]
    have f8 : fH a p (a + 8) = a + 9 := by unfold fH; rw [if_neg (by omega), if_neg (by omega), if_pos rfl]
    have f9 : fH a p (a + 9) = a + 8 := by unfold fH; rw [if_neg (by omega), if_neg (by omega), if_neg (by omega), if_pos rfl]
    have fo : ∀ j, j ≠ a → j ≠ a + 1 → j ≠ a + 8 → j ≠ a + 9 → fH a p j = p j := fun j h1 h2 h3 h4 => by unfold fH; rw [if_neg h1, if_neg h2, if_neg h3, if_neg h4]
    refine ⟨fH a p, hp', hn.2 p a hp S0 S1 S8 S9 (by omega) e1 e2, less _ hp' ?_⟩
    refine df_fl hd hf hp hp' ha x1 xw y1 yh b1 b2 b3 (fun j h1 h2 => ?_) (fun j h1 h2 => ?_) ?_ ?_ ?_ ?_
    · unfold Dp
      by_cases q3 : j = a + 8
      · subst q3; rw [f8, e3, decide_eq_false (by omega), decide_eq_false (by omega)]
      · by_cases q4 : j = a + 9
        · subst q4; rw [f9, e4, decide_eq_false (by omega), decide_eq_false (by omega)]
        · rw [fo j h1 h2 q3 q4]
    · rw [Rp_f, Rp_f]
      by_cases q3 : j = a + 1
      · subst q3; rw [f1, e2, decide_eq_false (show ¬ a = a + 1 + 1 by omega), decide_eq_false (show ¬ a + 9 = a + 1 + 1 by omega)]
      · by_cases q4 : j = a + 9
        · subst q4; rw [f9, e4, decide_eq_false (show ¬ a + 8 = a + 9 + 1 by omega), decide_eq_false (show ¬ a + 1 = a + 9 + 1 by omega)]
        · rw [fo j h1 q3 h2 q4]
    · unfold Dp
      rw [f1, e2, decide_eq_true (show (x + 1 + y) % 2 = 0 by omega), decide_eq_false (show ¬ a = a + 1 + 8 by omega), decide_eq_true (show a + 9 = a + 1 + 8 by omega)]; rfl
    · unfold Dp
      rw [f0, e1, decide_eq_false (show ¬ (x + y) % 2 = 0 by omega), decide_eq_false (show ¬ a + 1 = a + 8 by omega), decide_eq_true rfl]; rfl
    · rw [Rp_f, Rp_f, f8, e3, decide_eq_false (show ¬ (x + (y + 1)) % 2 = 1 by omega), decide_eq_true (show (a + 8) % 8 + 1 < w by omega), decide_eq_true (show a + 9 = a + 8 + 1 by omega), decide_eq_false (show ¬ a = a + 8 + 1 by omega)]; rfl
    · rw [Rp_f, Rp_f, f0, e1, decide_eq_true (show (x + y) % 2 = 1 by omega), decide_eq_true (show a % 8 + 1 < w by omega), decide_eq_true rfl, decide_eq_false (show ¬ a + 8 = a + 1 by omega)]; rfl
  · have hp' := pc_fV hp S0 S1 S8 S9 e1 e2
    have e3 : p (a + 1) = a := by rw [← e1]; exact (hp a S0).2.1
    have e4 : p (a + 9) = a + 8 := by rw [← e2]; exact (hp _ S8).2.1
    have f0 : fV a p a = a + 8 := if_pos rfl
    have f8 : fV a p (a + 8) = a := by unfold fV; rw [if_neg (by omega), if_pos rfl]
    have f1 : fV a p (a + 1) = a + 9 := by unfold fV; rw [if_neg (by omega), if_neg (by omega), if_pos rfl]
    have f9 : fV a p (a + 9) = a + 1 := by unfold fV; rw [if_neg (by omega), if_neg (by omega), if_neg (by omega), if_pos rfl]
    have fo : ∀ j, j ≠ a → j ≠ a + 1 → j ≠ a + 8 → j ≠ a + 9 → fV a p j = p j := fun j h1 h2 h3 h4 => by unfold fV; rw [if_neg h1, if_neg h3, if_neg h2, if_neg h4]
    have same : ∀ j, S j = true → p j = fH a (fV a p) j := fun j hj => by
      unfold fH
      by_cases q1 : j = a
      · rw [if_pos q1, q1]; exact e1
      · rw [if_neg q1]
        by_cases q2 : j = a + 1
        · rw [if_pos q2, q2]; exact e3
        · rw [if_neg q2]
          by_cases q3 : j = a + 8
          · rw [if_pos q3, q3]; exact e2
          · rw [if_neg q3]
            by_cases q4 : j = a + 9
            · rw [if_pos q4, q4]; exact e4
            · rw [if_neg q4, fo j q1 q2 q3 q4]
    have inv1 : f (fV a p) = f p := by
      rw [hn.1 p _ hp same]
      exact (hn.2 _ a hp' S0 S1 S8 S9 (by omega) f0 f1).symm
    refine ⟨fV a p, hp', inv1, less _ hp' ?_⟩
    refine df_fl hd hf hp hp' ha x1 xw y1 yh b1 b2 b3 (fun j h1 h2 => ?_) (fun j h1 h2 => ?_) ?_ ?_ ?_ ?_
    · unfold Dp
      by_cases q3 : j = a + 8
      · subst q3; rw [f8, e2, decide_eq_false (by omega), decide_eq_false (by omega)]
      · by_cases q4 : j = a + 9
        · subst q4; rw [f9, e4, decide_eq_false (by omega), decide_eq_false (by omega)]
        · rw [fo j h1 h2 q3 q4]
    · rw [Rp_f, Rp_f]
      by_cases q3 : j = a + 1
      · subst q3; rw [f1, e3, decide_eq_false (show ¬ a + 9 = a + 1 + 1 by omega), decide_eq_false (show ¬ a = a + 1 + 1 by omega)]
      · by_cases q4 : j = a + 9
        · subst q4; rw [f9, e4, decide_eq_false (show ¬ a + 1 = a + 9 + 1 by omega), decide_eq_false (show ¬ a + 8 = a + 9 + 1 by omega)]
        · rw [fo j h1 q3 h2 q4]
    · unfold Dp
      rw [f1, e3, decide_eq_false (show ¬ (x + 1 + y) % 2 = 0 by omega), decide_eq_true (show a + 9 = a + 1 + 8 by omega), decide_eq_false (show ¬ a = a + 1 + 8 by omega)]; rfl
    · unfold Dp
      rw [f0, e1, decide_eq_true (show (x + y) % 2 = 0 by omega), decide_eq_true rfl, decide_eq_false (show ¬ a + 1 = a + 8 by omega)]; rfl
    · rw [Rp_f, Rp_f, f8, e2, decide_eq_true (show (x + (y + 1)) % 2 = 1 by omega), decide_eq_true (show (a + 8) % 8 + 1 < w by omega), decide_eq_false (show ¬ a = a + 8 + 1 by omega), decide_eq_true (show a + 9 = a + 8 + 1 by omega)]; rfl
    · rw [Rp_f, Rp_f, f0, e1, decide_eq_false (show ¬ (x + y) % 2 = 1 by omega), decide_eq_true (show a % 8 + 1 < w by omega), decide_eq_false (show ¬ a + 8 = a + 1 by omega), decide_eq_true rfl]; rfl
theorem fl_all {f : (Nat → Nat) → Int} (hd : jd w h false S) (hg : gr_n w false (mi w h S) (rim w h false) = 0) (hf : fam w h S G) (hn : nofl w S f) : ∀ (n : Nat) (p q : Nat → Nat), mu w h G p q ≤ n → pc w false S p → pc w false S q → f p = f q := by
  intro n
  induction n with
  | zero =>
    intro p q hm hp hq
    refine hn.1 p q hp (df_same hd hf hp hq (fun x y hx hy => ?_))
    have hw8 := hd.2.1
    have hh8 := hd.2.2.2.1
    have := fb_sm_zero (show mu w h G p q = 0 by omega) (9 * y + x) (by omega)
    rw [if_pos (by omega), show (9 * y + x) % 9 = x by omega, show (9 * y + x) / 9 = y by omega] at this
    omega
  | succ n ih =>
    intro p q hm hp hq
    by_cases c : ∃ x y, x ≤ w ∧ y ≤ h ∧ 0 < df G p q x y
    · obtain ⟨p', h1, h2, h3⟩ := fl_step hd hg hf hn hp hq c
      rw [← h2]
      exact ih p' q (by omega) h1 hq
    · by_cases c2 : ∃ x y, x ≤ w ∧ y ≤ h ∧ 0 < df G q p x y
      · obtain ⟨q', h1, h2, h3⟩ := fl_step hd hg hf hn hq hp c2
        rw [← h2]
        refine ih p q' ?_ hp h1
        rw [mu_s]
        rw [mu_s] at hm
        omega
      · refine hn.1 p q hp (df_same hd hf hp hq (fun x y hx hy => ?_))
        have n1 : ¬ 0 < df G p q x y := fun e => c ⟨x, y, hx, hy, e⟩
        have n2 : ¬ 0 < df G q p x y := fun e => c2 ⟨x, y, hx, hy, e⟩
        unfold df at n1 n2 ⊢
        omega
end FLE
