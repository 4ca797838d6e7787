/-! ===== how many covers: cell by cell, over the cells that are left ===== -/
def cv_rm (S : Nat → Bool) (a b : Nat) : Nat → Bool := fun j => S j && !decide (j = a) && !decide (j = b)
def cv_R (w i : Nat) (S : Nat → Bool) : Bool := decide (i % 8 + 1 < w) && S (i + 1)
def cv_O (w : Nat) (r : Bool) (i : Nat) (S : Nat → Bool) : Bool := r && decide (i % 8 = 0) && S (i + (w - 1))
def cv_n (w : Nat) (r : Bool) : Nat → (Nat → Bool) → Nat
  | 0, _ => 1
  | n + 1, S => if S (63 - n) = true then
      (if cv_R w (63 - n) S = true then cv_n w r n (cv_rm S (63 - n) (63 - n + 1)) else 0)
      + (if S (63 - n + 8) = true then cv_n w r n (cv_rm S (63 - n) (63 - n + 8)) else 0)
      + (if cv_O w r (63 - n) S = true then cv_n w r n (cv_rm S (63 - n) (63 - n + (w - 1))) else 0)
    else cv_n w r n S
def cv_T (w : Nat) (r : Bool) (i : Nat) (S : Nat → Bool) : Nat := cv_n w r (64 - i) S
theorem cv_64 {w : Nat} {r : Bool} {S : Nat → Bool} : cv_T w r 64 S = 1 := rfl
theorem cv_s {w : Nat} {r : Bool} {i : Nat} {S : Nat → Bool} (hi : i < 64) : cv_T w r i S = if S i = true then
      (if cv_R w i S = true then cv_T w r (i + 1) (cv_rm S i (i + 1)) else 0)
      + (if S (i + 8) = true then cv_T w r (i + 1) (cv_rm S i (i + 8)) else 0)
      + (if cv_O w r i S = true then cv_T w r (i + 1) (cv_rm S i (i + (w - 1))) else 0)
    else cv_T w r (i + 1) S := by
  unfold cv_T
  have h1 : 64 - i = (63 - i) + 1 := by omega
  have h2 : 63 - (63 - i) = i := by omega
  have h3 : 64 - (i + 1) = 63 - i := by omega
  rw [h1, h3]
  simp only [cv_n, h2]
theorem cv_no {w : Nat} {r : Bool} {i : Nat} {S : Nat → Bool} (hi : i < 64) (h : S i = false) : cv_T w r i S = cv_T w r (i + 1) S := by
  rw [cv_s hi, if_neg (by rw [h]; exact Bool.false_ne_true)]
theorem cv_yes {w : Nat} {r : Bool} {i : Nat} {S : Nat → Bool} (hi : i < 64) (h : S i = true) : cv_T w r i S =
      (if cv_R w i S = true then cv_T w r (i + 1) (cv_rm S i (i + 1)) else 0)
      + (if S (i + 8) = true then cv_T w r (i + 1) (cv_rm S i (i + 8)) else 0)
      + (if cv_O w r i S = true then cv_T w r (i + 1) (cv_rm S i (i + (w - 1))) else 0) := by
  rw [cv_s hi, if_pos h]
theorem cv_cong {w : Nat} {r : Bool} : ∀ {n i : Nat} {S S' : Nat → Bool}, 64 - i = n → (∀ j, i ≤ j → S j = S' j) → cv_T w r i S = cv_T w r i S' := by
  intro n
  induction n with
  | zero => intro i S S' hn _; unfold cv_T; rw [hn]; rfl
  | succ n ih =>
    intro i S S' hn h
    have hi : i < 64 := by omega
    rw [cv_s hi, cv_s hi, h i (Nat.le_refl _)]
    have hR : cv_R w i S = cv_R w i S' := by unfold cv_R; rw [h (i + 1) (by omega)]
    have hO : cv_O w r i S = cv_O w r i S' := by unfold cv_O; rw [h (i + (w - 1)) (by omega)]
    have hrm : ∀ a b, cv_T w r (i + 1) (cv_rm S a b) = cv_T w r (i + 1) (cv_rm S' a b) := fun a b => ih (by omega) (fun j hj => by unfold cv_rm; rw [h j (by omega)])
    rw [hR, hO, h (i + 8) (by omega), hrm, hrm, hrm, ih (by omega) (fun j hj => h j (by omega))]
theorem cv_c {w : Nat} {r : Bool} {i : Nat} {S S' : Nat → Bool} (h : ∀ j, i ≤ j → S j = S' j) : cv_T w r i S = cv_T w r i S' := cv_cong rfl h
theorem cv_skip {w : Nat} {r : Bool} {S : Nat → Bool} {i : Nat} : ∀ {n : Nat}, i + n ≤ 64 → (∀ j, i ≤ j → j < i + n → S j = false) → cv_T w r i S = cv_T w r (i + n) S := by
  intro n
  induction n with
  | zero => intro _ _; rfl
  | succ n ih =>
    intro h1 h2
    rw [ih (by omega) (fun j hj hj2 => h2 j hj (by omega)), cv_no (by omega) (h2 (i + n) (by omega) (by omega))]
    rfl
/-- how many cells are left -/
theorem cv_ct {S : Nat → Bool} {a b n : Nat} (ha : a < n) (hb : b < n) (hab : a ≠ b) (h1 : S a = true) (h2 : S b = true) : fb_ct (cv_rm S a b) n + 2 = fb_ct S n := by
  have e : cv_rm S a b = fun k => if k = b then false else (fun k => if k = a then false else S k) k := by
    funext k
    unfold cv_rm
    by_cases hk : k = b
    · subst hk; simp
    · by_cases hk2 : k = a
      · subst hk2; simp
      · simp [hk, hk2]
  rw [e]
  have hb2 : ¬ b = a := fun e => hab e.symm
  have v1 : (if (fun k => if k = a then false else S k) b = true then 1 else 0) = 1 := by
    show (if (if b = a then false else S b) = true then 1 else 0) = 1
    rw [if_neg hb2, h2]; rfl
  have v2 : (if S a = true then 1 else 0) = 1 := by rw [h1]; rfl
  have u1 : fb_ct (fun k => if k = b then false else (fun k => if k = a then false else S k) k) n + 1 = fb_ct (fun k => if k = a then false else S k) n := by
    have u := fb_ct_upd (fun k => if k = a then false else S k) false hb
    rw [v1] at u
    exact u
  have u2 : fb_ct (fun k => if k = a then false else S k) n + 1 = fb_ct S n := by
    have u := fb_ct_upd S false ha
    rw [v2] at u
    exact u
  rw [← u2, ← u1]
def cv_in (S : Nat → Bool) : Prop := ∀ j, S j = true → j < 64
theorem cv_in_rm {S : Nat → Bool} {a b : Nat} (h : cv_in S) : cv_in (cv_rm S a b) := by
  intro j hj
  unfold cv_rm at hj
  simp only [Bool.and_eq_true] at hj
  exact h j hj.1.1
theorem cv_p3 {c : Nat} (h : 2 ≤ c) : 3 ^ (c / 2) = 3 * 3 ^ ((c - 2) / 2) := by
  have : c / 2 = (c - 2) / 2 + 1 := by omega
  rw [this, Nat.pow_succ, Nat.mul_comm]
theorem cv_bd {w : Nat} {r : Bool} : ∀ {n i : Nat} {S : Nat → Bool}, 64 - i = n → (r = true → 2 ≤ w) → cv_in S → cv_T w r i S ≤ 3 ^ (fb_ct S 64 / 2) := by
  intro n
  induction n with
  | zero => intro i S hn _ _; unfold cv_T; rw [hn]; exact Nat.one_le_pow _ _ (by omega)
  | succ n ih =>
    intro i S hn hw h
    have hi : i < 64 := by omega
    have one : ∀ (c : Bool) (o : Nat), (c = true → o ≠ i ∧ S o = true) → S i = true → (if c = true then cv_T w r (i + 1) (cv_rm S i o) else 0) ≤ 3 ^ ((fb_ct S 64 - 2) / 2) := by
      intro c o hc hS
      by_cases h1 : c = true
      · rw [if_pos h1]
        obtain ⟨h2, h3⟩ := hc h1
        have h4 := cv_ct hi (h o h3) (fun e => h2 e.symm) hS h3
        have h5 := ih (i := i + 1) (S := cv_rm S i o) (by omega) hw (cv_in_rm h)
        have h6 : fb_ct S 64 - 2 = fb_ct (cv_rm S i o) 64 := by omega
        rw [h6]; exact h5
      · rw [if_neg h1]; exact Nat.zero_le _
    by_cases hS : S i = true
    · rw [cv_yes hi hS]
      have a1 := one (cv_R w i S) (i + 1) (fun h1 => by unfold cv_R at h1; simp only [Bool.and_eq_true] at h1; exact ⟨by omega, h1.2⟩) hS
      have a2 := one (S (i + 8)) (i + 8) (fun h1 => ⟨by omega, h1⟩) hS
      have a3 := one (cv_O w r i S) (i + (w - 1)) (fun h1 => by
        unfold cv_O at h1; simp only [Bool.and_eq_true, decide_eq_true_eq] at h1
        have := hw h1.1.1
        exact ⟨by omega, h1.2⟩) hS
      have pos : 2 ≤ fb_ct S 64 ∨ (cv_R w i S = false ∧ S (i + 8) = false ∧ cv_O w r i S = false) := by
        rcases Nat.lt_or_ge (fb_ct S 64) 2 with hlt | hge
        · right
          have key : ∀ o, o ≠ i → S o = true → False := fun o ho hs => by
            have := cv_ct hi (h o hs) (fun e => ho e.symm) hS hs
            omega
          refine ⟨?_, ?_, ?_⟩
          · cases hc : cv_R w i S
            · rfl
            · unfold cv_R at hc; simp only [Bool.and_eq_true] at hc
              exact (key (i + 1) (by omega) hc.2).elim
          · cases hc : S (i + 8)
            · rfl
            · exact (key (i + 8) (by omega) hc).elim
          · cases hc : cv_O w r i S
            · rfl
            · unfold cv_O at hc; simp only [Bool.and_eq_true, decide_eq_true_eq] at hc
              have := hw hc.1.1
              exact (key (i + (w - 1)) (by omega) hc.2).elim
        · left; exact hge
      rcases pos with hp | ⟨e1, e2, e3⟩
      · rw [cv_p3 hp]; omega
      · rw [e1, e2, e3]; simp
    · rw [Bool.not_eq_true] at hS
      rw [cv_no hi hS]
      exact ih (by omega) hw h
theorem cv_ct_64 (S : Nat → Bool) : fb_ct S 64 ≤ 64 := fb_ct_le S 64
theorem cv_big {w : Nat} {r : Bool} {i : Nat} {S : Nat → Bool} (hw : r = true → 2 ≤ w) (h : cv_in S) : cv_T w r i S ≤ 1853020188851841 := by
  have h1 := cv_bd (i := i) rfl hw h
  have h2 : 3 ^ (fb_ct S 64 / 2) ≤ 3 ^ 32 := Nat.pow_le_pow_right (by omega) (by have := cv_ct_64 S; omega)
  have h3 : (3 : Nat) ^ 32 = 1853020188851841 := by decide +kernel
  omega
