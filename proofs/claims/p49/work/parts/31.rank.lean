/-! ===== covers as who lies with whom; their numbers ===== -/
def sw (i o : Nat) (p : Nat → Nat) : Nat → Nat := fun j => if j = i then o else if j = o then i else p j
def ca (w : Nat) (r : Bool) (i : Nat) (S : Nat → Bool) : Nat := if cv_R w i S = true then cv_T w r (i + 1) (cv_rm S i (i + 1)) else 0
def cb (w : Nat) (r : Bool) (i : Nat) (S : Nat → Bool) : Nat := if S (i + 8) = true then cv_T w r (i + 1) (cv_rm S i (i + 8)) else 0
def cc (w : Nat) (r : Bool) (i : Nat) (S : Nat → Bool) : Nat := if cv_O w r i S = true then cv_T w r (i + 1) (cv_rm S i (i + (w - 1))) else 0
theorem ca_t {w : Nat} {r : Bool} {i : Nat} {S : Nat → Bool} (hi : i < 64) (h : S i = true) : cv_T w r i S = ca w r i S + cb w r i S + cc w r i S := cv_yes hi h
def ur_n (w : Nat) (r : Bool) : Nat → (Nat → Bool) → Nat → Nat → Nat
  | 0, _, _ => fun j => j
  | n + 1, S, m => if S (63 - n) = true then
      (if m < ca w r (63 - n) S then sw (63 - n) (63 - n + 1) (ur_n w r n (cv_rm S (63 - n) (63 - n + 1)) m)
      else if m < ca w r (63 - n) S + cb w r (63 - n) S then sw (63 - n) (63 - n + 8) (ur_n w r n (cv_rm S (63 - n) (63 - n + 8)) (m - ca w r (63 - n) S))
      else sw (63 - n) (63 - n + (w - 1)) (ur_n w r n (cv_rm S (63 - n) (63 - n + (w - 1))) (m - ca w r (63 - n) S - cb w r (63 - n) S)))
    else ur_n w r n S m
def rk_n (w : Nat) (r : Bool) (p : Nat → Nat) : Nat → (Nat → Bool) → Nat
  | 0, _ => 0
  | n + 1, S => if S (63 - n) = true then
      (if p (63 - n) = 63 - n + 1 then rk_n w r p n (cv_rm S (63 - n) (63 - n + 1))
      else if p (63 - n) = 63 - n + 8 then ca w r (63 - n) S + rk_n w r p n (cv_rm S (63 - n) (63 - n + 8))
      else ca w r (63 - n) S + cb w r (63 - n) S + rk_n w r p n (cv_rm S (63 - n) (63 - n + (w - 1))))
    else rk_n w r p n S
/-- the cover of a number, from a cell on -/
def ur (w : Nat) (r : Bool) (i : Nat) (S : Nat → Bool) (m : Nat) : Nat → Nat := ur_n w r (64 - i) S m
def rk (w : Nat) (r : Bool) (i : Nat) (S : Nat → Bool) (p : Nat → Nat) : Nat := rk_n w r p (64 - i) S
/-- a cover -/
def pc (w : Nat) (r : Bool) (S : Nat → Bool) (p : Nat → Nat) : Prop := ∀ j, S j = true → S (p j) = true ∧ p (p j) = j ∧ nb w r j (p j) = true
section RANK
variable {w : Nat} {r : Bool} {S : Nat → Bool} {i m o : Nat} {p : Nat → Nat}
theorem ur_s (hi : i < 64) : ur w r i S m = if S i = true then
      (if m < ca w r i S then sw i (i + 1) (ur w r (i + 1) (cv_rm S i (i + 1)) m)
      else if m < ca w r i S + cb w r i S then sw i (i + 8) (ur w r (i + 1) (cv_rm S i (i + 8)) (m - ca w r i S))
      else sw i (i + (w - 1)) (ur w r (i + 1) (cv_rm S i (i + (w - 1))) (m - ca w r i S - cb w r i S)))
    else ur w r (i + 1) S m := by
  unfold ur
  have h1 : 64 - i = (63 - i) + 1 := by omega
  have h2 : 63 - (63 - i) = i := by omega
  have h3 : 64 - (i + 1) = 63 - i := by omega
  rw [h1, h3]
  simp only [ur_n, h2]
theorem rk_s (hi : i < 64) : rk w r i S p = if S i = true then
      (if p i = i + 1 then rk w r (i + 1) (cv_rm S i (i + 1)) p
      else if p i = i + 8 then ca w r i S + rk w r (i + 1) (cv_rm S i (i + 8)) p
      else ca w r i S + cb w r i S + rk w r (i + 1) (cv_rm S i (i + (w - 1))) p)
    else rk w r (i + 1) S p := by
  unfold rk
  have h1 : 64 - i = (63 - i) + 1 := by omega
  have h2 : 63 - (63 - i) = i := by omega
  have h3 : 64 - (i + 1) = 63 - i := by omega
  rw [h1, h3]
  simp only [rk_n, h2]
/-- the cells lie behind a place -/
def bh (i : Nat) (S : Nat → Bool) : Prop := ∀ j, S j = true → i ≤ j ∧ j < 64
theorem cv_rm_t {a b j : Nat} : cv_rm S a b j = true ↔ S j = true ∧ j ≠ a ∧ j ≠ b := by
  unfold cv_rm; simp [and_assoc]
theorem bh_rm (h : bh i S) : bh (i + 1) (cv_rm S i o) := by
  intro j hj
  rw [cv_rm_t] at hj
  have := h j hj.1
  omega
theorem bh_no (h : bh i S) (h2 : ¬ S i = true) : bh (i + 1) S := by
  intro j hj
  have := h j hj
  by_cases q : j = i
  · subst q; exact absurd hj h2
  · omega
theorem pc_rm (h : pc w r S p) (hi : S i = true) (ho : p i = o) : pc w r (cv_rm S i o) p := by
  intro j hj
  rw [cv_rm_t] at hj ⊢
  obtain ⟨a, b, c⟩ := h j hj.1
  refine ⟨⟨a, fun e => ?_, fun e => ?_⟩, b, c⟩
  · rw [e, ho] at b; exact hj.2.2 b.symm
  · have b2 : p (p j) = p o := by rw [e]
    rw [b, ← ho, (h i hi).2.1] at b2
    exact hj.2.1 b2
theorem pc_sw (h : pc w r (cv_rm S i o) p) (hi : S i = true) (ho : S o = true) (hne : i ≠ o) (hn : nb w r i o = true) : pc w r S (sw i o p) := by
  intro j hj
  unfold sw
  by_cases q1 : j = i
  · rw [if_pos q1]
    refine ⟨ho, ?_, by rw [q1]; exact hn⟩
    rw [if_neg (fun e => hne e.symm), if_pos rfl, q1]
  · rw [if_neg q1]
    by_cases q2 : j = o
    · rw [if_pos q2]
      exact ⟨hi, by rw [if_pos rfl, q2], by rw [q2]; exact nb_s hn⟩
    · rw [if_neg q2]
      have := h j (cv_rm_t.mpr ⟨hj, q1, q2⟩)
      rw [cv_rm_t] at this
      exact ⟨this.1.1, by rw [if_neg this.1.2.1, if_neg this.1.2.2]; exact this.2.1, this.2.2⟩
theorem rk_c {q : Nat → Nat} : ∀ {n i : Nat} {S : Nat → Bool}, 64 - i = n → (∀ j, S j = true → p j = q j) → rk w r i S p = rk w r i S q := by
  intro n
  induction n with
  | zero => intro i S hn _; unfold rk; rw [hn]; rfl
  | succ n ih =>
    intro i S hn h
    have hi : i < 64 := by omega
    rw [rk_s hi, rk_s hi]
    by_cases hs : S i = true
    · rw [if_pos hs, if_pos hs, h i hs]
      have e : ∀ o, rk w r (i + 1) (cv_rm S i o) p = rk w r (i + 1) (cv_rm S i o) q := fun o => ih (by omega) (fun j hj => h j (cv_rm_t.mp hj).1)
      rw [e, e, e]
    · rw [if_neg hs, if_neg hs]
      exact ih (by omega) h
theorem nb_right (h : i % 8 + 1 < w) : nb w r i (i + 1) = true := by
  unfold nb; simp only [Bool.or_eq_true, Bool.and_eq_true, decide_eq_true_eq]
  exact Or.inl (Or.inl (Or.inl (Or.inr ⟨trivial, h⟩)))
theorem nb_down : nb w r i (i + 8) = true := by
  unfold nb; simp only [Bool.or_eq_true, Bool.and_eq_true, decide_eq_true_eq]
  exact Or.inl (Or.inl (Or.inl (Or.inl (Or.inl trivial))))
theorem nb_round (h1 : r = true) (h2 : i % 8 = 0) : nb w r i (i + (w - 1)) = true := by
  unfold nb; simp only [Bool.or_eq_true, Bool.and_eq_true, decide_eq_true_eq]
  exact Or.inl (Or.inr ⟨⟨h1, h2⟩, trivial⟩)
/-- a piece whose first cell is i -/
theorem nb_up {j : Nat} (h : nb w r i j = true) (hij : i ≤ j) (hr : r = true → 4 ≤ w) (bw : w ≤ 8) : (j = i + 1 ∧ i % 8 + 1 < w) ∨ j = i + 8 ∨ (j = i + (w - 1) ∧ r = true ∧ i % 8 = 0) := by
  unfold nb at h
  simp only [Bool.or_eq_true, Bool.and_eq_true, decide_eq_true_eq] at h
  rcases h with ((((h | h) | h) | h) | h) | h
  · exact Or.inr (Or.inl h)
  · omega
  · exact Or.inl ⟨h.1, h.2⟩
  · omega
  · exact Or.inr (Or.inr ⟨h.2, h.1.1, h.1.2⟩)
  · have := hr h.1.1
    omega
theorem ur_ok (bw : w ≤ 8) (hr : r = true → 4 ≤ w) : ∀ {n i : Nat} {S : Nat → Bool} {m : Nat}, 64 - i = n → bh i S → m < cv_T w r i S → pc w r S (ur w r i S m) ∧ rk w r i S (ur w r i S m) = m := by
  intro n
  induction n with
  | zero =>
    intro i S m hn hb hm
    have e : cv_T w r i S = 1 := by unfold cv_T; rw [hn]; rfl
    rw [e] at hm
    refine ⟨fun j hj => ?_, ?_⟩
    · have := hb j hj; omega
    · have : rk w r i S (ur w r i S m) = 0 := by unfold rk; rw [hn]; rfl
      rw [this]; omega
  | succ n ih =>
    intro i S m hn hb hm
    have hi : i < 64 := by omega
    by_cases hs : S i = true
    · rw [ca_t hi hs] at hm
      have step : ∀ o m', S o = true → i < o → nb w r i o = true → m' < cv_T w r (i + 1) (cv_rm S i o) → pc w r S (sw i o (ur w r (i + 1) (cv_rm S i o) m')) ∧ rk w r (i + 1) (cv_rm S i o) (sw i o (ur w r (i + 1) (cv_rm S i o) m')) = m' ∧ sw i o (ur w r (i + 1) (cv_rm S i o) m') i = o := by
        intro o m' ho hio hn2 hm'
        have h1 := ih (i := i + 1) (by omega) (bh_rm hb) hm'
        refine ⟨pc_sw h1.1 hs ho (by omega) hn2, ?_, by unfold sw; rw [if_pos rfl]⟩
        rw [← h1.2]
        rw [h1.2]
        have := rk_c (w := w) (r := r) (p := sw i o (ur w r (i + 1) (cv_rm S i o) m')) (q := ur w r (i + 1) (cv_rm S i o) m') (i := i + 1) (S := cv_rm S i o) rfl (fun j hj => by
          rw [cv_rm_t] at hj
          unfold sw
          rw [if_neg hj.2.1, if_neg hj.2.2])
        rw [this]; exact h1.2
      rw [ur_s hi, if_pos hs, rk_s hi, if_pos hs]
      by_cases q1 : m < ca w r i S
      · rw [if_pos q1]
        have hR : cv_R w i S = true := by
          cases hc : cv_R w i S
          · unfold ca at q1; rw [hc] at q1; exact absurd q1 (Nat.not_lt_zero _)
          · rfl
        have e : ca w r i S = cv_T w r (i + 1) (cv_rm S i (i + 1)) := if_pos hR
        unfold cv_R at hR
        simp only [Bool.and_eq_true, decide_eq_true_eq] at hR
        obtain ⟨a1, a2, a3⟩ := step (i + 1) m hR.2 (by omega) (nb_right hR.1) (by omega)
        refine ⟨a1, ?_⟩
        rw [if_pos a3]; exact a2
      · rw [if_neg q1]
        by_cases q2 : m < ca w r i S + cb w r i S
        · rw [if_pos q2]
          have hD : S (i + 8) = true := by
            cases hc : S (i + 8)
            · unfold cb at q2; rw [hc] at q2; exact absurd q2 q1
            · rfl
          have e : cb w r i S = cv_T w r (i + 1) (cv_rm S i (i + 8)) := if_pos hD
          obtain ⟨a1, a2, a3⟩ := step (i + 8) (m - ca w r i S) hD (by omega) nb_down (by omega)
          refine ⟨a1, ?_⟩
          rw [a3, if_neg (by omega), if_pos rfl, a2]; omega
        · rw [if_neg q2]
          have hO : cv_O w r i S = true := by
            cases hc : cv_O w r i S
            · have : cc w r i S = 0 := by unfold cc; rw [hc]; rfl
              omega
            · rfl
          have e : cc w r i S = cv_T w r (i + 1) (cv_rm S i (i + (w - 1))) := if_pos hO
          unfold cv_O at hO
          simp only [Bool.and_eq_true, decide_eq_true_eq] at hO
          have w4 := hr hO.1.1
          obtain ⟨a1, a2, a3⟩ := step (i + (w - 1)) (m - ca w r i S - cb w r i S) hO.2 (by omega) (nb_round hO.1.1 hO.1.2) (by omega)
          refine ⟨a1, ?_⟩
          rw [a3, if_neg (by omega), if_neg (by omega), a2]; omega
    · rw [cv_no hi (by rwa [Bool.not_eq_true] at hs)] at hm
      have := ih (i := i + 1) (by omega) (bh_no hb hs) hm
      rw [ur_s hi, if_neg hs, rk_s hi, if_neg hs]
      exact this
theorem rk_ok (bw : w ≤ 8) (hr : r = true → 4 ≤ w) : ∀ {n i : Nat} {S : Nat → Bool}, 64 - i = n → bh i S → pc w r S p → rk w r i S p < cv_T w r i S ∧ ∀ j, S j = true → ur w r i S (rk w r i S p) j = p j := by
  intro n
  induction n with
  | zero =>
    intro i S hn hb hp
    have e : cv_T w r i S = 1 := by unfold cv_T; rw [hn]; rfl
    have : rk w r i S p = 0 := by unfold rk; rw [hn]; rfl
    rw [e, this]
    exact ⟨by omega, fun j hj => by have := hb j hj; omega⟩
  | succ n ih =>
    intro i S hn hb hp
    have hi : i < 64 := by omega
    by_cases hs : S i = true
    · obtain ⟨h1, h2, h3⟩ := hp i hs
      have h4 := hb _ h1
      have step : ∀ o, p i = o → rk w r (i + 1) (cv_rm S i o) p < cv_T w r (i + 1) (cv_rm S i o) ∧ ∀ j, S j = true → sw i o (ur w r (i + 1) (cv_rm S i o) (rk w r (i + 1) (cv_rm S i o) p)) j = p j := by
        intro o ho
        have a := ih (i := i + 1) (by omega) (bh_rm hb) (pc_rm hp hs ho)
        refine ⟨a.1, fun j hj => ?_⟩
        unfold sw
        by_cases q1 : j = i
        · rw [if_pos q1, q1, ho]
        · rw [if_neg q1]
          by_cases q2 : j = o
          · rw [if_pos q2, q2, ← ho, h2]
          · rw [if_neg q2]
            exact a.2 j (cv_rm_t.mpr ⟨hj, q1, q2⟩)
      rw [ca_t hi hs, ur_s hi, if_pos hs, rk_s hi, if_pos hs]
      rcases nb_up h3 h4.1 hr bw with ⟨q, q2⟩ | q | ⟨q, q2, q3⟩
      · have hR : cv_R w i S = true := by
          unfold cv_R; rw [decide_eq_true q2, ← q, h1]; rfl
        have e : ca w r i S = cv_T w r (i + 1) (cv_rm S i (i + 1)) := if_pos hR
        have a := step (i + 1) q
        rw [if_pos q, if_pos (by omega)]
        exact ⟨by omega, a.2⟩
      · have hD : S (i + 8) = true := by rw [← q]; exact h1
        have e : cb w r i S = cv_T w r (i + 1) (cv_rm S i (i + 8)) := if_pos hD
        have a := step (i + 8) q
        have e2 : ca w r i S + rk w r (i + 1) (cv_rm S i (i + 8)) p - ca w r i S = rk w r (i + 1) (cv_rm S i (i + 8)) p := by omega
        rw [if_neg (by omega), if_pos q, if_neg (by omega), if_pos (by omega), e2]
        exact ⟨by omega, a.2⟩
      · have w4 := hr q2
        have hO : cv_O w r i S = true := by
          unfold cv_O; rw [q2, decide_eq_true q3, ← q, h1]; rfl
        have e : cc w r i S = cv_T w r (i + 1) (cv_rm S i (i + (w - 1))) := if_pos hO
        have a := step (i + (w - 1)) q
        have e2 : ca w r i S + cb w r i S + rk w r (i + 1) (cv_rm S i (i + (w - 1))) p - ca w r i S - cb w r i S = rk w r (i + 1) (cv_rm S i (i + (w - 1))) p := by omega
        rw [if_neg (by omega), if_neg (by omega), if_neg (by omega), if_neg (by omega), e2]
        exact ⟨by omega, a.2⟩
    · have hs2 : S i = false := by rwa [Bool.not_eq_true] at hs
      rw [cv_no hi hs2, ur_s hi, if_neg hs, rk_s hi, if_neg hs]
      exact ih (i := i + 1) (by omega) (bh_no hb hs) hp
end RANK
