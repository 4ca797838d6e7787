/-! ===== a row filled, and the rows one after another ===== -/
def cv_S (S : Nat → Bool) (y m : Nat) : Nat → Bool := fun j => S j && !(decide (j / 8 = y) && m.testBit (j % 8))
def cv_M (S : Nat → Bool) (y fl dn : Nat) : Nat → Bool := fun j => S j && !(decide (j / 8 = y) && fl.testBit (j % 8)) && !(decide (j / 8 = y + 1) && dn.testBit (j % 8))
def cv_f (w y : Nat) (S : Nat → Bool) : Nat → Nat → Nat → Nat → Nat → Nat
  | 0, _, _, _, _ => 0
  | n + 1, x, fl, dn, d => if x = w then (if d = dn then 1 else 0)
    else if S (8 * y + x) = false ∨ fl.testBit x = true then cv_f w y S n (x + 1) fl dn d
    else (if x + 1 < w ∧ S (8 * y + (x + 1)) = true ∧ fl.testBit (x + 1) = false then cv_f w y S n (x + 2) fl dn d else 0)
      + (if S (8 * (y + 1) + x) = true then cv_f w y S n (x + 1) fl (dn ||| 2 ^ x) d else 0)
/-- the cells lie in a rectangle -/
def cv_re (w h : Nat) (S : Nat → Bool) : Prop := ∀ j, S j = true → j < 64 ∧ j % 8 < w ∧ j / 8 < h
theorem cv_tb {x m : Nat} (j : Nat) : (m ||| 2 ^ x).testBit j = (m.testBit j || decide (j = x)) := fb_bit_set m x j
theorem cv_lt {x m : Nat} (h : m < 2 ^ x) : m ||| 2 ^ x < 2 ^ (x + 1) := Nat.or_lt_two_pow (Nat.lt_of_lt_of_le h (Nat.pow_le_pow_right (by omega) (by omega))) (Nat.pow_lt_pow_right (by omega) (by omega))
theorem sm_pick {f : Nat → Nat} {n a : Nat} (h : a < n) : fb_sm (fun d => (if d = a then 1 else 0) * f d) n = f a := by
  induction n with
  | zero => omega
  | succ n ih =>
    rw [fb_sm_succ]
    by_cases h2 : a = n
    · subst h2
      have e : fb_sm (fun d => (if d = a then 1 else 0) * f d) a = fb_sm (fun _ => 0) a := fb_sm_cong (fun k hk => by rw [if_neg (by omega), Nat.zero_mul])
      rw [e, fb_sm_const]; simp
    · rw [ih (by omega), if_neg (fun e => h2 e.symm)]; simp
theorem sm_mul (c : Nat) (f : Nat → Nat) : ∀ n, fb_sm (fun k => c * f k) n = c * fb_sm f n
  | 0 => (Nat.mul_zero c).symm
  | n + 1 => by rw [fb_sm_succ, fb_sm_succ, sm_mul c f n, Nat.mul_add]
theorem sm_mulr (c : Nat) (f : Nat → Nat) (n : Nat) : fb_sm (fun k => f k * c) n = fb_sm f n * c := by
  rw [Nat.mul_comm, ← sm_mul]
  exact fb_sm_cong (fun k _ => Nat.mul_comm _ _)
theorem sm_0 : ∀ n, fb_sm (fun _ => 0) n = 0 := fun n => by rw [fb_sm_const, Nat.mul_zero]
theorem sm_swap (f : Nat → Nat → Nat) (m : Nat) : ∀ n, fb_sm (fun a => fb_sm (fun b => f a b) m) n = fb_sm (fun b => fb_sm (fun a => f a b) n) m
  | 0 => (sm_0 m).symm
  | n + 1 => by
    rw [fb_sm_succ, sm_swap f m n, ← fb_sm_add]
    rfl
theorem cv_rm_f {S : Nat → Bool} {a b j : Nat} (h1 : j ≠ a) (h2 : j ≠ b) : cv_rm S a b j = S j := by
  unfold cv_rm; simp [h1, h2]
theorem cv_rm_a {S : Nat → Bool} {a b : Nat} : cv_rm S a b a = false := by unfold cv_rm; simp
theorem cv_rm_b {S : Nat → Bool} {a b : Nat} : cv_rm S a b b = false := by unfold cv_rm; simp
section CVF
variable {w h : Nat} {r : Bool} {S : Nat → Bool}
theorem cv_f1 (hw : 1 ≤ w) (hw8 : w ≤ 8) (hS : cv_re w h S) {y : Nat} (hy : y < 8) : ∀ n x fl dn, w < n + x → x ≤ w → dn < 2 ^ x → fb_sm (fun d => cv_f w y S n x fl dn d * cv_T w r (8 * (y + 1)) (cv_S S (y + 1) d)) 256 + (if x = 0 ∧ cv_M S y fl dn (8 * y + x) = true ∧ cv_O w r (8 * y + x) (cv_M S y fl dn) = true then cv_T w r (8 * y + x + 1) (cv_rm (cv_M S y fl dn) (8 * y + x) (8 * y + x + (w - 1))) else 0) = cv_T w r (8 * y + x) (cv_M S y fl dn) := by
  intro n
  induction n with
  | zero => intro x fl dn h1 h2; omega
  | succ n ih =>
    intro x fl dn h1 h2 h4
    have hx8 : 2 ^ x ≤ 256 := by
      have : (2 : Nat) ^ x ≤ 2 ^ 8 := Nat.pow_le_pow_right (by omega) (by omega)
      omega
    by_cases hxw : x = w
    · have e1 : ∀ d, cv_f w y S (n + 1) x fl dn d = if d = dn then 1 else 0 := fun d => by simp only [cv_f, if_pos hxw]
      rw [fb_sm_cong (fun k _ => by rw [e1 k]), sm_pick (f := fun d => cv_T w r (8 * (y + 1)) (cv_S S (y + 1) d)) (by omega)]
      have e2 : cv_T w r (8 * y + x) (cv_M S y fl dn) = cv_T w r (8 * (y + 1)) (cv_M S y fl dn) := by
        have h5 : 8 * (y + 1) = (8 * y + x) + (8 - x) := by omega
        rw [h5]
        refine cv_skip (by omega) (fun j hj hj2 => ?_)
        cases hc : cv_M S y fl dn j
        · rfl
        · unfold cv_M at hc
          simp only [Bool.and_eq_true] at hc
          have := hS j hc.1.1
          omega
      rw [e2, if_neg (by omega), Nat.add_zero]
      refine cv_c (fun j hj => ?_)
      unfold cv_S cv_M
      have : ¬ j / 8 = y := by omega
      simp [this]
    · have hxl : x < w := by omega
      have hi : 8 * y + x < 64 := by omega
      have d1 : (8 * y + x) / 8 = y := by omega
      have d2 : (8 * y + x) % 8 = x := by omega
      have hM : cv_M S y fl dn (8 * y + x) = (S (8 * y + x) && !fl.testBit x) := by
        unfold cv_M; rw [d1, d2]; simp
      have ih1 : ∀ k fl dn, 1 ≤ k → x + k ≤ w → dn < 2 ^ (x + k) → fb_sm (fun d => cv_f w y S n (x + k) fl dn d * cv_T w r (8 * (y + 1)) (cv_S S (y + 1) d)) 256 = cv_T w r (8 * y + (x + k)) (cv_M S y fl dn) := by
        intro k fl dn hk hk2 hd
        have := ih (x + k) fl dn (by omega) hk2 hd
        rw [if_neg (by omega), Nat.add_zero] at this
        exact this
      by_cases hf : S (8 * y + x) = false ∨ fl.testBit x = true
      · have e1 : ∀ d, cv_f w y S (n + 1) x fl dn d = cv_f w y S n (x + 1) fl dn d := fun d => by simp only [cv_f, if_neg hxw, if_pos hf]
        have hM0 : cv_M S y fl dn (8 * y + x) = false := by rw [hM]; rcases hf with e | e <;> rw [e] <;> simp
        rw [fb_sm_cong (fun k _ => by rw [e1 k]), ih1 1 fl dn (by omega) (by omega) (by rw [Nat.pow_succ]; omega), if_neg (by rw [hM0]; simp), Nat.add_zero]
        exact (cv_no hi hM0).symm
      · have hf1 : S (8 * y + x) = true := by
          cases hc : S (8 * y + x)
          · exact (hf (Or.inl hc)).elim
          · rfl
        have hf2 : fl.testBit x = false := by
          cases hc : fl.testBit x
          · rfl
          · exact (hf (Or.inr hc)).elim
        have e1 : ∀ d, cv_f w y S (n + 1) x fl dn d = (if x + 1 < w ∧ S (8 * y + (x + 1)) = true ∧ fl.testBit (x + 1) = false then cv_f w y S n (x + 2) fl dn d else 0) + (if S (8 * (y + 1) + x) = true then cv_f w y S n (x + 1) fl (dn ||| 2 ^ x) d else 0) := fun d => by simp only [cv_f, if_neg hxw, if_neg hf]
        have e2 : fb_sm (fun d => cv_f w y S (n + 1) x fl dn d * cv_T w r (8 * (y + 1)) (cv_S S (y + 1) d)) 256 = (if x + 1 < w ∧ S (8 * y + (x + 1)) = true ∧ fl.testBit (x + 1) = false then fb_sm (fun d => cv_f w y S n (x + 2) fl dn d * cv_T w r (8 * (y + 1)) (cv_S S (y + 1) d)) 256 else 0) + (if S (8 * (y + 1) + x) = true then fb_sm (fun d => cv_f w y S n (x + 1) fl (dn ||| 2 ^ x) d * cv_T w r (8 * (y + 1)) (cv_S S (y + 1) d)) 256 else 0) := by
          rw [fb_sm_cong (fun k _ => by rw [e1 k, Nat.add_mul]), fb_sm_add]
          congr 1
          · split
            · rfl
            · rw [fb_sm_cong (g := fun _ => 0) (fun k _ => by rw [Nat.zero_mul]), sm_0]
          · split
            · rfl
            · rw [fb_sm_cong (g := fun _ => 0) (fun k _ => by rw [Nat.zero_mul]), sm_0]
        rw [e2, cv_yes hi (by rw [hM, hf1, hf2]; rfl)]
        have hM1 : cv_M S y fl dn (8 * y + x) = true := by rw [hM, hf1, hf2]; rfl
        have hO : (if x = 0 ∧ cv_M S y fl dn (8 * y + x) = true ∧ cv_O w r (8 * y + x) (cv_M S y fl dn) = true then cv_T w r (8 * y + x + 1) (cv_rm (cv_M S y fl dn) (8 * y + x) (8 * y + x + (w - 1))) else 0) = (if cv_O w r (8 * y + x) (cv_M S y fl dn) = true then cv_T w r (8 * y + x + 1) (cv_rm (cv_M S y fl dn) (8 * y + x) (8 * y + x + (w - 1))) else 0) := by
          by_cases hx0 : x = 0
          · by_cases hoo : cv_O w r (8 * y + x) (cv_M S y fl dn) = true
            · rw [if_pos ⟨hx0, hM1, hoo⟩, if_pos hoo]
            · rw [if_neg (fun h => hoo h.2.2), if_neg hoo]
          · have hoo : ¬ cv_O w r (8 * y + x) (cv_M S y fl dn) = true := by
              unfold cv_O; rw [d2]
              simp [hx0]
            rw [if_neg (fun h => hoo h.2.2), if_neg hoo]
        rw [hO]
        have d3 : x + 1 < w → (8 * y + x + 1) / 8 = y := fun h => by omega
        have d4 : x + 1 < w → (8 * y + x + 1) % 8 = x + 1 := fun h => by omega
        have hR : (cv_R w (8 * y + x) (cv_M S y fl dn) = true) ↔ (x + 1 < w ∧ S (8 * y + (x + 1)) = true ∧ fl.testBit (x + 1) = false) := by
          unfold cv_R; rw [d2]
          simp only [Bool.and_eq_true, decide_eq_true_eq]
          refine and_congr_right (fun h => ?_)
          unfold cv_M; rw [d3 h, d4 h]
          have : ¬ y = y + 1 := by omega
          simp [this, Nat.add_assoc]
        have hD : cv_M S y fl dn (8 * y + x + 8) = S (8 * (y + 1) + x) := by
          unfold cv_M
          have a1 : (8 * y + x + 8) / 8 = y + 1 := by omega
          have a2 : (8 * y + x + 8) % 8 = x := by omega
          have a3 : ¬ y + 1 = y := by omega
          have a4 : dn.testBit x = false := Nat.testBit_lt_two_pow h4
          have a5 : 8 * y + x + 8 = 8 * (y + 1) + x := by omega
          rw [a1, a2, a4, a5]; simp [a3]
        congr 1
        congr 1
        · by_cases hc : x + 1 < w ∧ S (8 * y + (x + 1)) = true ∧ fl.testBit (x + 1) = false
          · rw [if_pos hc, if_pos (hR.mpr hc), ih1 2 fl dn (by omega) (by omega) (by rw [Nat.pow_succ, Nat.pow_succ]; omega), cv_no (i := 8 * y + x + 1) (by omega) cv_rm_b]
            refine cv_c (fun j hj => ?_)
            exact (cv_rm_f (by omega) (by omega)).symm
          · rw [if_neg hc, if_neg (fun h => hc (hR.mp h))]
        · rw [hD]
          by_cases hc : S (8 * (y + 1) + x) = true
          · rw [if_pos hc, if_pos hc, ih1 1 fl (dn ||| 2 ^ x) (by omega) (by omega) (cv_lt h4)]
            refine cv_c (fun j hj => ?_)
            by_cases hj8 : j = 8 * y + x + 8
            · subst hj8
              rw [cv_rm_b]
              unfold cv_M
              have a1 : (8 * y + x + 8) / 8 = y + 1 := by omega
              have a2 : (8 * y + x + 8) % 8 = x := by omega
              rw [a1, a2, cv_tb]; simp
            · rw [cv_rm_f (by omega) hj8]
              unfold cv_M
              rw [cv_tb]
              by_cases h7 : j / 8 = y + 1
              · have : ¬ j % 8 = x := by omega
                simp [this]
              · simp [h7]
          · rw [if_neg hc, if_neg hc]
/-- a whole row from a mask at its beginning; the piece that goes round is a start of its own -/
theorem cv_M0 {y m : Nat} : cv_M S y m 0 = cv_S S y m := by
  funext j
  unfold cv_M cv_S
  simp
end CVF
def cv_G (w : Nat) (r : Bool) (y : Nat) (S : Nat → Bool) (m d : Nat) : Nat := cv_f w y S 40 0 m 0 d + (if r = true ∧ S (8 * y) = true ∧ S (8 * y + (w - 1)) = true ∧ m.testBit 0 = false ∧ m.testBit (w - 1) = false then cv_f w y S 40 0 (m ||| (1 ||| 2 ^ (w - 1))) 0 d else 0)
theorem cv_g {w h y : Nat} {r : Bool} {S : Nat → Bool} (hw : 1 ≤ w) (hw8 : w ≤ 8) (hS : cv_re w h S) (hy : y < 8) (m : Nat) : fb_sm (fun d => cv_G w r y S m d * cv_T w r (8 * (y + 1)) (cv_S S (y + 1) d)) 256 = cv_T w r (8 * y) (cv_S S y m) := by
  have a1 := cv_f1 (r := r) hw hw8 hS hy 40 0 m 0 (by omega) (by omega) (by omega)
  rw [cv_M0] at a1
  simp only [Nat.add_zero, true_and] at a1
  have hO : (cv_S S y m (8 * y) = true ∧ cv_O w r (8 * y) (cv_S S y m) = true) ↔ (r = true ∧ S (8 * y) = true ∧ S (8 * y + (w - 1)) = true ∧ m.testBit 0 = false ∧ m.testBit (w - 1) = false) := by
    unfold cv_O cv_S
    have b1 : 8 * y / 8 = y := by omega
    have b2 : 8 * y % 8 = 0 := by omega
    have b3 : (8 * y + (w - 1)) / 8 = y := by omega
    have b4 : (8 * y + (w - 1)) % 8 = w - 1 := by omega
    rw [b1, b2, b3, b4]
    simp
    constructor
    · rintro ⟨⟨c1, c2⟩, c3, c4, c5⟩; exact ⟨c3, c1, c4, c2, c5⟩
    · rintro ⟨c3, c1, c4, c2, c5⟩; exact ⟨⟨c1, c2⟩, c3, c4, c5⟩
  unfold cv_G
  by_cases hc : r = true ∧ S (8 * y) = true ∧ S (8 * y + (w - 1)) = true ∧ m.testBit 0 = false ∧ m.testBit (w - 1) = false
  · rw [if_pos (hO.mpr hc)] at a1
    have a2 := cv_f1 (r := r) hw hw8 hS hy 40 0 (m ||| (1 ||| 2 ^ (w - 1))) 0 (by omega) (by omega) (by omega)
    rw [cv_M0] at a2
    have e0 : ∀ j, (m ||| (1 ||| 2 ^ (w - 1))).testBit j = (m.testBit j || (decide (j = 0) || decide (j = w - 1))) := by
      intro j
      have : (1 : Nat) = 2 ^ 0 := rfl
      rw [Nat.testBit_or, Nat.testBit_or, this, Nat.testBit_two_pow, Nat.testBit_two_pow]
      congr 2
      · exact decide_eq_decide.mpr ⟨fun e => e.symm, fun e => e.symm⟩
      · exact decide_eq_decide.mpr ⟨fun e => e.symm, fun e => e.symm⟩
    have z0 : cv_S S y (m ||| (1 ||| 2 ^ (w - 1))) (8 * y) = false := by
      unfold cv_S
      have b1 : 8 * y / 8 = y := by omega
      have b2 : 8 * y % 8 = 0 := by omega
      rw [b1, b2, e0]; simp
    simp only [Nat.add_zero, z0, Bool.false_eq_true, false_and, and_false, if_false] at a2
    rw [fb_sm_cong (g := fun d => cv_f w y S 40 0 m 0 d * cv_T w r (8 * (y + 1)) (cv_S S (y + 1) d) + cv_f w y S 40 0 (m ||| (1 ||| 2 ^ (w - 1))) 0 d * cv_T w r (8 * (y + 1)) (cv_S S (y + 1) d)) (fun k _ => by rw [if_pos hc, Nat.add_mul]), fb_sm_add, a2, ← a1]
    congr 1
    rw [cv_no (by omega) z0]
    refine cv_c (fun j hj => ?_)
    unfold cv_rm cv_S
    rw [e0]
    by_cases h1 : j = 8 * y + (w - 1)
    · have b3 : (8 * y + (w - 1)) / 8 = y := by omega
      have b4 : (8 * y + (w - 1)) % 8 = w - 1 := by omega
      subst h1; rw [b3, b4]; simp
    · by_cases h2 : j / 8 = y
      · have b5 : ¬ j % 8 = 0 := by omega
        have b6 : ¬ j % 8 = w - 1 := by omega
        have b7 : ¬ j = 8 * y := by omega
        simp [h1, h2, b5, b6, b7]
      · have b7 : ¬ j = 8 * y := by omega
        simp [h1, h2, b7]
  · rw [if_neg (fun h => hc (hO.mp h)), Nat.add_zero] at a1
    rw [← a1]
    refine fb_sm_cong (fun k _ => ?_)
    rw [if_neg hc, Nat.add_zero]
/-- the rows one after another: ways to a mask, each times what is behind it, are always all -/
def cv_W (w : Nat) (r : Bool) (S : Nat → Bool) : Nat → Nat → Nat
  | 0, m => if m = 0 then 1 else 0
  | y + 1, d => fb_sm (fun m => cv_W w r S y m * cv_G w r y S m d) (2 ^ w)
theorem cv_f0 {w y : Nat} {S : Nat → Bool} (hw8 : w ≤ 8) : ∀ n x fl dn d, x ≤ w → dn < 2 ^ x → 2 ^ w ≤ d → cv_f w y S n x fl dn d = 0 := by
  intro n
  induction n with
  | zero => intros; rfl
  | succ n ih =>
    intro x fl dn d h1 h2 h3
    have h4 : 2 ^ x ≤ 2 ^ w := Nat.pow_le_pow_right (by omega) h1
    simp only [cv_f]
    by_cases hx : x = w
    · rw [if_pos hx, if_neg (by omega)]
    · have h5 : dn < 2 ^ (x + 1) := by rw [Nat.pow_succ]; omega
      rw [if_neg hx]
      split
      · exact ih _ _ _ _ (by omega) h5 h3
      · have e1 : (if x + 1 < w ∧ S (8 * y + (x + 1)) = true ∧ fl.testBit (x + 1) = false then cv_f w y S n (x + 2) fl dn d else 0) = 0 := by
          split
          · rename_i hc
            exact ih _ _ _ _ (by omega) (by rw [Nat.pow_succ]; omega) h3
          · rfl
        have e2 : (if S (8 * (y + 1) + x) = true then cv_f w y S n (x + 1) fl (dn ||| 2 ^ x) d else 0) = 0 := by
          split
          · exact ih _ _ _ _ (by omega) (cv_lt h2) h3
          · rfl
        rw [e1, e2]
theorem cv_G0 {w y m d : Nat} {r : Bool} {S : Nat → Bool} (hw8 : w ≤ 8) (h : 2 ^ w ≤ d) : cv_G w r y S m d = 0 := by
  unfold cv_G
  rw [cv_f0 hw8 _ _ _ _ _ (by omega) (by omega) h]
  split
  · rw [cv_f0 hw8 _ _ _ _ _ (by omega) (by omega) h]
  · rfl
theorem cv_W0 {w y d : Nat} {r : Bool} {S : Nat → Bool} (hw8 : w ≤ 8) (h : 2 ^ w ≤ d) : cv_W w r S y d = 0 := by
  cases y with
  | zero =>
    have : 0 < 2 ^ w := Nat.pow_pos (by omega)
    show (if d = 0 then 1 else 0) = 0
    rw [if_neg (by omega)]
  | succ y =>
    show fb_sm _ _ = 0
    rw [fb_sm_cong (g := fun _ => 0) (fun k _ => by rw [cv_G0 hw8 h, Nat.mul_zero]), sm_0]
theorem cv_sp {w : Nat} (hw8 : w ≤ 8) {f : Nat → Nat} (h : ∀ d, 2 ^ w ≤ d → f d = 0) : fb_sm f 256 = fb_sm f (2 ^ w) := by
  have h1 : (2 : Nat) ^ w ≤ 2 ^ 8 := Nat.pow_le_pow_right (by omega) hw8
  have h2 : 256 = 2 ^ w + (256 - 2 ^ w) := by omega
  rw [h2, fb_sm_split, fb_sm_cong (f := fun k => f (2 ^ w + k)) (g := fun _ => 0) (fun k _ => h _ (by omega)), sm_0, Nat.add_zero]
theorem cv_WT {w h : Nat} {r : Bool} {S : Nat → Bool} (hw : 1 ≤ w) (hw8 : w ≤ 8) (hS : cv_re w h S) : ∀ y, y ≤ 8 → fb_sm (fun m => cv_W w r S y m * cv_T w r (8 * y) (cv_S S y m)) (2 ^ w) = cv_T w r 0 S := by
  intro y
  induction y with
  | zero =>
    intro _
    have : 0 < 2 ^ w := Nat.pow_pos (by omega)
    have e := sm_pick (f := fun m => cv_T w r (8 * 0) (cv_S S 0 m)) this
    rw [show fb_sm (fun m => cv_W w r S 0 m * cv_T w r (8 * 0) (cv_S S 0 m)) (2 ^ w) = _ from e]
    refine cv_c (fun j _ => ?_)
    unfold cv_S; simp
  | succ y ih =>
    intro hy
    rw [← ih (by omega), ← cv_sp hw8 (fun d hd => by rw [cv_W0 hw8 hd, Nat.zero_mul])]
    rw [fb_sm_cong (g := fun d => fb_sm (fun m => cv_W w r S y m * (cv_G w r y S m d * cv_T w r (8 * (y + 1)) (cv_S S (y + 1) d))) (2 ^ w)) (fun d _ => by
      show fb_sm _ _ * _ = _
      rw [← sm_mulr]
      exact fb_sm_cong (fun m _ => Nat.mul_assoc _ _ _))]
    rw [sm_swap]
    refine fb_sm_cong (fun m _ => ?_)
    rw [sm_mul, cv_g hw hw8 hS (by omega)]
theorem cv_end {w h : Nat} {r : Bool} {S : Nat → Bool} (hw : 1 ≤ w) (hw8 : w ≤ 8) (hh : h ≤ 8) (hS : cv_re w h S) (hz : ∀ m, m ≠ 0 → cv_W w r S h m = 0) : cv_W w r S h 0 = cv_T w r 0 S := by
  rw [← cv_WT hw hw8 hS h hh]
  have e : ∀ m, m < 2 ^ w → cv_W w r S h m * cv_T w r (8 * h) (cv_S S h m) = (if m = 0 then 1 else 0) * cv_W w r S h 0 := by
    intro m _
    by_cases hm : m = 0
    · subst hm
      have h1 : cv_T w r (8 * h) (cv_S S h 0) = 1 := by
        have h2 : 8 * h + (64 - 8 * h) = 64 := by omega
        have h3 := cv_skip (w := w) (r := r) (S := cv_S S h 0) (i := 8 * h) (n := 64 - 8 * h) (by omega) (fun j hj _ => by
          cases hc : cv_S S h 0 j
          · rfl
          · unfold cv_S at hc
            simp only [Bool.and_eq_true] at hc
            have := hS j hc.1
            omega)
        rw [h3, h2, cv_64]
      rw [h1]; simp
    · rw [hz m hm, if_neg hm]; simp
  rw [fb_sm_cong e, sm_mulr, ← sm_mulr]
  exact (sm_pick (f := fun _ => cv_W w r S h 0) (Nat.pow_pos (by omega))).symm
/-- no mask hangs below the last row -/
theorem cv_f9 {w h y : Nat} {S : Nat → Bool} (hS : cv_re w h S) (hy : h ≤ y + 1) (hw8 : w ≤ 8) : ∀ n x fl d, x ≤ w → d ≠ 0 → cv_f w y S n x fl 0 d = 0 := by
  intro n
  induction n with
  | zero => intros; rfl
  | succ n ih =>
    intro x fl d hx hd
    simp only [cv_f]
    by_cases hxw : x = w
    · rw [if_pos hxw, if_neg hd]
    · rw [if_neg hxw]
      have h1 : S (8 * (y + 1) + x) = false := by
        cases hc : S (8 * (y + 1) + x)
        · rfl
        · have := hS _ hc; omega
      rw [h1]
      split
      · exact ih _ _ _ (by omega) hd
      · simp only [Bool.false_eq_true, if_false, Nat.add_zero]
        split
        · rename_i hc; exact ih _ _ _ (by omega) hd
        · rfl
theorem cv_W9 {w h : Nat} {r : Bool} {S : Nat → Bool} (hw8 : w ≤ 8) (hS : cv_re w h S) (m : Nat) (hm : m ≠ 0) : cv_W w r S h m = 0 := by
  cases h with
  | zero => show (if m = 0 then 1 else 0) = 0; rw [if_neg hm]
  | succ y =>
    show fb_sm _ _ = 0
    rw [fb_sm_cong (g := fun _ => 0) (fun k _ => by
      unfold cv_G
      rw [cv_f9 hS (Nat.le_refl _) hw8 _ _ _ _ (by omega) hm]
      split
      · rw [cv_f9 hS (Nat.le_refl _) hw8 _ _ _ _ (by omega) hm]; rfl
      · rfl), sm_0]
/-- the ways stay few -/
def cv_F : Nat → Nat
  | 0 => 1
  | 1 => 1
  | n + 2 => cv_F (n + 1) + cv_F n
theorem cv_F1 : ∀ n, cv_F n ≤ cv_F (n + 1)
  | 0 => Nat.le_refl _
  | n + 1 => Nat.le_add_right _ _
theorem cv_fb {w y : Nat} {S : Nat → Bool} : ∀ n x fl dn, x ≤ w → fb_sm (fun d => cv_f w y S n x fl dn d) 256 ≤ cv_F (w - x) := by
  intro n
  induction n with
  | zero => intro x fl dn _; show fb_sm (fun _ => 0) 256 ≤ _; rw [sm_0]; exact Nat.zero_le _
  | succ n ih =>
    intro x fl dn hx
    by_cases hxw : x = w
    · have e : ∀ d, cv_f w y S (n + 1) x fl dn d = if d = dn then 1 else 0 := fun d => by simp only [cv_f, if_pos hxw]
      rw [fb_sm_cong (fun k _ => e k)]
      by_cases h1 : dn < 256
      · have := sm_pick (f := fun _ => 1) h1
        simp only [Nat.mul_one] at this
        rw [this, hxw, Nat.sub_self]; exact Nat.le_refl 1
      · rw [fb_sm_cong (g := fun _ => 0) (fun k hk => by rw [if_neg (by omega)]), sm_0]; exact Nat.zero_le _
    · have e3 : w - x = (w - (x + 1)) + 1 := by omega
      by_cases hf : S (8 * y + x) = false ∨ fl.testBit x = true
      · have e : ∀ d, cv_f w y S (n + 1) x fl dn d = cv_f w y S n (x + 1) fl dn d := fun d => by simp only [cv_f, if_neg hxw, if_pos hf]
        rw [fb_sm_cong (fun k _ => e k)]
        have h1 : fb_sm (cv_f w y S n (x + 1) fl dn) 256 ≤ cv_F (w - (x + 1)) := ih (x + 1) fl dn (by omega)
        have h2 := cv_F1 (w - (x + 1))
        rw [← e3] at h2; omega
      · have e : ∀ d, cv_f w y S (n + 1) x fl dn d = (if x + 1 < w ∧ S (8 * y + (x + 1)) = true ∧ fl.testBit (x + 1) = false then cv_f w y S n (x + 2) fl dn d else 0) + (if S (8 * (y + 1) + x) = true then cv_f w y S n (x + 1) fl (dn ||| 2 ^ x) d else 0) := fun d => by simp only [cv_f, if_neg hxw, if_neg hf]
        rw [fb_sm_cong (fun k _ => e k), fb_sm_add]
        have b1 : fb_sm (fun d => if S (8 * (y + 1) + x) = true then cv_f w y S n (x + 1) fl (dn ||| 2 ^ x) d else 0) 256 ≤ cv_F (w - (x + 1)) := by
          by_cases hc : S (8 * (y + 1) + x) = true
          · rw [fb_sm_cong (fun k _ => if_pos hc)]; exact ih _ _ _ (by omega)
          · rw [fb_sm_cong (fun k _ => if_neg hc), sm_0]; exact Nat.zero_le _
        by_cases hx1 : x + 1 < w
        · have b2 : fb_sm (fun d => if x + 1 < w ∧ S (8 * y + (x + 1)) = true ∧ fl.testBit (x + 1) = false then cv_f w y S n (x + 2) fl dn d else 0) 256 ≤ cv_F (w - (x + 2)) := by
            by_cases hc : x + 1 < w ∧ S (8 * y + (x + 1)) = true ∧ fl.testBit (x + 1) = false
            · rw [fb_sm_cong (fun k _ => if_pos hc)]; exact ih _ _ _ (by omega)
            · rw [fb_sm_cong (fun k _ => if_neg hc), sm_0]; exact Nat.zero_le _
          have e4 : w - x = (w - (x + 2)) + 2 := by omega
          have e5 : w - (x + 1) = (w - (x + 2)) + 1 := by omega
          have e6 : cv_F (w - x) = cv_F (w - (x + 2) + 1) + cv_F (w - (x + 2)) := by rw [e4]; rfl
          rw [e5] at b1; omega
        · have b2 : fb_sm (fun d => if x + 1 < w ∧ S (8 * y + (x + 1)) = true ∧ fl.testBit (x + 1) = false then cv_f w y S n (x + 2) fl dn d else 0) 256 = 0 := by
            rw [fb_sm_cong (fun k _ => if_neg (fun h => hx1 h.1)), sm_0]
          have h2 := cv_F1 (w - (x + 1))
          rw [← e3] at h2; omega
theorem cv_Fm {a b : Nat} (h : a ≤ b) : cv_F a ≤ cv_F b := by
  induction b with
  | zero => rw [Nat.le_zero.mp h]; exact Nat.le_refl _
  | succ b ih =>
    by_cases h1 : a = b + 1
    · rw [h1]; exact Nat.le_refl _
    · exact Nat.le_trans (ih (by omega)) (cv_F1 b)
theorem cv_Gb {w y m : Nat} {r : Bool} {S : Nat → Bool} (hw8 : w ≤ 8) : fb_sm (fun d => cv_G w r y S m d) 256 ≤ 68 := by
  have h8 : cv_F w ≤ 34 := by
    have h1 := cv_Fm hw8
    have h2 : cv_F 8 = 34 := by decide +kernel
    omega
  have h1 : fb_sm (cv_f w y S 40 0 m 0) 256 ≤ cv_F (w - 0) := cv_fb (w := w) (y := y) (S := S) 40 0 m 0 (Nat.zero_le _)
  unfold cv_G
  rw [fb_sm_add]
  have h2 : fb_sm (fun d => if r = true ∧ S (8 * y) = true ∧ S (8 * y + (w - 1)) = true ∧ m.testBit 0 = false ∧ m.testBit (w - 1) = false then cv_f w y S 40 0 (m ||| (1 ||| 2 ^ (w - 1))) 0 d else 0) 256 ≤ cv_F w := by
    by_cases hc : r = true ∧ S (8 * y) = true ∧ S (8 * y + (w - 1)) = true ∧ m.testBit 0 = false ∧ m.testBit (w - 1) = false
    · rw [fb_sm_cong (fun k _ => if_pos hc)]; exact cv_fb (w := w) (y := y) (S := S) 40 0 _ 0 (Nat.zero_le _)
    · rw [fb_sm_cong (fun k _ => if_neg hc), sm_0]; exact Nat.zero_le _
  rw [Nat.sub_zero] at h1
  omega
theorem cv_Wb {w : Nat} {r : Bool} {S : Nat → Bool} (hw8 : w ≤ 8) : ∀ y, fb_sm (fun m => cv_W w r S y m) 256 ≤ 68 ^ y := by
  intro y
  induction y with
  | zero =>
    have := sm_pick (f := fun _ => 1) (show 0 < 256 by omega)
    simp only [Nat.mul_one] at this
    exact Nat.le_of_eq this
  | succ y ih =>
    show fb_sm (fun d => fb_sm (fun m => cv_W w r S y m * cv_G w r y S m d) (2 ^ w)) 256 ≤ _
    rw [sm_swap]
    refine Nat.le_trans (fb_sm_le (g := fun m => cv_W w r S y m * 68) (fun m _ => ?_)) ?_
    · rw [sm_mul]; exact Nat.mul_le_mul_left _ (cv_Gb hw8)
    · rw [sm_mulr, Nat.pow_succ]
      refine Nat.mul_le_mul_right _ (Nat.le_trans ?_ ih)
      rw [← cv_sp hw8 (fun d hd => cv_W0 hw8 hd)]
      exact Nat.le_refl _
theorem cv_W1 {w y m : Nat} {r : Bool} {S : Nat → Bool} (hw8 : w ≤ 8) (hy : y ≤ 8) : cv_W w r S y m ≤ 457163239653376 := by
  by_cases hm : m < 256
  · have h1 := fb_sm_part (fun m => cv_W w r S y m) hm
    have h2 := cv_Wb (r := r) (S := S) hw8 y
    have h3 : (68 : Nat) ^ y ≤ 68 ^ 8 := Nat.pow_le_pow_right (by omega) hy
    have h4 : (68 : Nat) ^ 8 = 457163239653376 := by decide +kernel
    omega
  · have h1 : (2 : Nat) ^ w ≤ 2 ^ 8 := Nat.pow_le_pow_right (by omega) hw8
    rw [cv_W0 hw8 (by omega)]; exact Nat.zero_le _
