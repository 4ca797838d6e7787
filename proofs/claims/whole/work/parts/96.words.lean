/-! ===== rows of ends, two bits each, and their mates ===== -/
def pg (s k : Nat) : Nat := s / 2 ^ (2 * k) % 2 ^ 2
theorem pg_t (s k i : Nat) : (pg s k).testBit i = (decide (i < 2) && s.testBit (2 * k + i)) := by
  unfold pg
  rw [Nat.testBit_mod_two_pow, Nat.testBit_div_two_pow, Nat.add_comm]
theorem pg_4 (s k : Nat) : pg s k < 4 := Nat.mod_lt _ (by decide)
theorem pg_x {s t : Nat} (h : ∀ k, pg s k = pg t k) : s = t := by
  refine Nat.eq_of_testBit_eq (fun i => ?_)
  have := congrArg (fun a => a.testBit (i % 2)) (h (i / 2))
  simp only [pg_t, show i % 2 < 2 from Nat.mod_lt _ (by decide), decide_true, Bool.true_and, show 2 * (i / 2) + i % 2 = i by omega] at this
  exact this
theorem pg_or (s t k : Nat) : pg (s ||| t) k = pg s k ||| pg t k := Nat.eq_of_testBit_eq fun i => by
  simp only [Nat.testBit_or, pg_t]
  cases decide (i < 2) <;> rfl
theorem pg_xor (s t k : Nat) : pg (s ^^^ t) k = pg s k ^^^ pg t k := Nat.eq_of_testBit_eq fun i => by
  simp only [Nat.testBit_xor, pg_t]
  cases decide (i < 2) <;> rfl
theorem pg_and (s t k : Nat) : pg (s &&& t) k = pg s k &&& pg t k := Nat.eq_of_testBit_eq fun i => by
  simp only [Nat.testBit_and, pg_t]
  cases decide (i < 2) <;> rfl
theorem pg_0 (k : Nat) : pg 0 k = 0 := by unfold pg; simp
theorem pg_s {p j k : Nat} (hp : p < 4) : pg (p * 2 ^ (2 * j)) k = if k = j then p else 0 := by
  refine Nat.eq_of_testBit_eq fun i => ?_
  rw [pg_t, Nat.mul_comm, Nat.testBit_two_pow_mul]
  have hb : ∀ n, 2 ≤ n → p.testBit n = false := fun n hn => Nat.testBit_lt_two_pow (Nat.lt_of_lt_of_le (show p < 2 ^ 2 from hp) (Nat.pow_le_pow_right (by decide) hn))
  by_cases q : k = j
  · subst q
    rw [if_pos rfl]
    by_cases hi : i < 2
    · rw [decide_eq_true hi, decide_eq_true (by omega : 2 * k + i ≥ 2 * k), show 2 * k + i - 2 * k = i by omega]; rfl
    · rw [decide_eq_false hi, hb i (by omega)]; rfl
  · rw [if_neg q, Nat.zero_testBit]
    by_cases hi : i < 2
    · rw [decide_eq_true hi, Bool.true_and]
      by_cases h2 : 2 * k + i ≥ 2 * j
      · rw [decide_eq_true h2, Bool.true_and]
        exact hb _ (by omega)
      · rw [decide_eq_false h2]; rfl
    · rw [decide_eq_false hi]; rfl
/-- an end put at a place -/
def putE (s j p : Nat) : Nat := (s ^^^ (s &&& 3 * 2 ^ (2 * j))) ||| p * 2 ^ (2 * j)
theorem pg_putE {s j p k : Nat} (hp : p < 4) : pg (putE s j p) k = if k = j then p else pg s k := by
  unfold putE
  rw [pg_or, pg_xor, pg_and, pg_s (by decide), pg_s hp]
  have h4 := pg_4 s k
  by_cases q : k = j
  · rw [if_pos q, if_pos q, if_pos q]
    have : ∀ a : Fin 4, ∀ p : Fin 4, (a.val ^^^ (a.val &&& 3)) ||| p.val = p.val := by decide +kernel
    exact this ⟨pg s k, h4⟩ ⟨p, hp⟩
  · rw [if_neg q, if_neg q, if_neg q, Nat.and_zero, Nat.xor_zero, Nat.or_zero]
theorem pg_lt {s n : Nat} (h : ∀ k, n ≤ k → pg s k = 0) : s < 2 ^ (2 * n) := by
  refine Nat.lt_pow_two_of_testBit _ (fun i hi => ?_)
  have := congrArg (fun a => a.testBit (i % 2)) (h (i / 2) (by omega))
  simp only [pg_t, show i % 2 < 2 from Nat.mod_lt _ (by decide), decide_true, Bool.true_and, show 2 * (i / 2) + i % 2 = i by omega, Nat.zero_testBit] at this
  exact this
theorem pg_ge {s n : Nat} (h : s < 2 ^ (2 * n)) {k : Nat} (hk : n ≤ k) : pg s k = 0 := by
  unfold pg
  rw [Nat.div_eq_of_lt (Nat.lt_of_lt_of_le h (Nat.pow_le_pow_right (by decide) (by omega)))]
def endv (p : Nat) : Int := if p = 1 then 1 else if p = 2 then -1 else 0
/-- how many ends are open ahead of a place -/
def dd (s : Nat) : Nat → Int
  | 0 => 0
  | i + 1 => dd s i + endv (pg s i)
/-- a row of n ends in which each has its mate -/
def bal (n s : Nat) : Prop := (∀ k, pg s k ≠ 3) ∧ (∀ k, n ≤ k → pg s k = 0) ∧ (∀ i, 0 ≤ dd s i) ∧ dd s n = 0
theorem dd_c {s t a : Nat} : ∀ m, (∀ k, a ≤ k → k < a + m → pg t k = pg s k) → dd t (a + m) - dd t a = dd s (a + m) - dd s a
  | 0, _ => by rw [Nat.add_zero, Int.sub_self, Int.sub_self]
  | m + 1, h => by
    have := dd_c m (fun k h1 h2 => h k h1 (by omega))
    show dd t (a + m) + endv (pg t (a + m)) - dd t a = dd s (a + m) + endv (pg s (a + m)) - dd s a
    rw [h (a + m) (by omega) (by omega)]
    omega
theorem dd_cc {s t a b : Nat} (hab : a ≤ b) (h : ∀ k, a ≤ k → k < b → pg t k = pg s k) : dd t b - dd t a = dd s b - dd s a := by
  obtain ⟨m, rfl⟩ : ∃ m, b = a + m := ⟨b - a, by omega⟩
  exact dd_c m h
theorem endv_1 : endv 1 = 1 := rfl
theorem endv_2 : endv 2 = -1 := rfl
theorem endv_0 : endv 0 = 0 := rfl
theorem endv_b (p : Nat) : -1 ≤ endv p ∧ endv p ≤ 1 := by
  unfold endv
  split
  · omega
  · split <;> omega
theorem bal_0 (n : Nat) : bal n 0 := by
  have d0 : ∀ i, dd 0 i = 0 := fun i => by
    induction i with
    | zero => rfl
    | succ i ih => show dd 0 i + endv (pg 0 i) = 0; rw [ih, pg_0]; rfl
  exact ⟨fun k => by rw [pg_0]; decide, fun k _ => pg_0 k, fun i => by rw [d0]; omega, d0 n⟩
theorem bal_lt {n s : Nat} (h : bal n s) : s < 2 ^ (2 * n) := pg_lt h.2.1
theorem bal_p {n s : Nat} (h : bal n s) (k : Nat) : pg s k = 0 ∨ pg s k = 1 ∨ pg s k = 2 := by
  have := pg_4 s k
  have := h.1 k
  omega
/-- two neighbouring ends are exchanged for others that are worth the same -/
theorem bal_2 {n s x p q : Nat} (h : bal n s) (hx : x + 1 < n) (hp : p < 3) (hq : q < 3) (hv : endv p + endv q = endv (pg s x) + endv (pg s (x + 1))) (h0 : 0 ≤ dd s x + endv p) : bal n (putE (putE s x p) (x + 1) q) := by
  have e : ∀ k, pg (putE (putE s x p) (x + 1) q) k = if k = x + 1 then q else if k = x then p else pg s k := fun k => by
    rw [pg_putE (by omega), pg_putE (by omega)]
  have lo : ∀ i, i ≤ x → dd (putE (putE s x p) (x + 1) q) i = dd s i := fun i hi => by
    have := dd_cc (s := s) (t := putE (putE s x p) (x + 1) q) (a := 0) (b := i) (by omega) (fun k _ h2 => by rw [e, if_neg (by omega), if_neg (by omega)])
    have z1 : dd s 0 = 0 := rfl
    have z2 : dd (putE (putE s x p) (x + 1) q) 0 = 0 := rfl
    omega
  have m1 : dd (putE (putE s x p) (x + 1) q) (x + 1) = dd s x + endv p := by
    show dd (putE (putE s x p) (x + 1) q) x + endv (pg (putE (putE s x p) (x + 1) q) x) = _
    rw [lo x (by omega), e, if_neg (by omega), if_pos rfl]
  have m2 : dd (putE (putE s x p) (x + 1) q) (x + 2) = dd s (x + 2) := by
    show dd (putE (putE s x p) (x + 1) q) (x + 1) + endv (pg (putE (putE s x p) (x + 1) q) (x + 1)) = dd s x + endv (pg s x) + endv (pg s (x + 1))
    rw [m1, e, if_pos rfl]
    omega
  have hi : ∀ i, x + 2 ≤ i → dd (putE (putE s x p) (x + 1) q) i = dd s i := fun i hi => by
    have := dd_cc (s := s) (t := putE (putE s x p) (x + 1) q) (a := x + 2) (b := i) hi (fun k h1 _ => by rw [e, if_neg (by omega), if_neg (by omega)])
    omega
  refine ⟨fun k => ?_, fun k hk => ?_, fun i => ?_, ?_⟩
  · rw [e]
    split
    · omega
    · split
      · omega
      · exact h.1 k
  · rw [e, if_neg (by omega), if_neg (by omega)]; exact h.2.1 k hk
  · rcases Nat.lt_trichotomy i (x + 1) with q1 | q1 | q1
    · rw [lo i (by omega)]; exact h.2.2.1 i
    · rw [q1, m1]; exact h0
    · rw [hi i (by omega)]; exact h.2.2.1 i
  · rw [hi n (by omega)]; exact h.2.2.2
/-- the mate of an end that opens -/
theorem mate_r {n s k : Nat} (h : bal n s) (hk : pg s k = 1) : ∃ m, k < m ∧ m < n ∧ pg s m = 2 ∧ dd s (m + 1) = dd s k ∧ ∀ i, k < i → i ≤ m → dd s k + 1 ≤ dd s i := by
  have kn : k < n := Nat.lt_of_not_le fun q => by rw [h.2.1 k q] at hk; cases hk
  have k1 : dd s (k + 1) = dd s k + 1 := by show dd s k + endv (pg s k) = _; rw [hk]; rfl
  have d0 := h.2.2.1 k
  have key : ∀ j, (∀ i, k < i → i ≤ k + 1 + j → dd s k + 1 ≤ dd s i) ∨ ∃ m, k < m ∧ m < k + 1 + j ∧ pg s m = 2 ∧ dd s (m + 1) = dd s k ∧ ∀ i, k < i → i ≤ m → dd s k + 1 ≤ dd s i := by
    intro j
    induction j with
    | zero => exact Or.inl (fun i h1 h2 => by rw [show i = k + 1 by omega, k1]; omega)
    | succ j ih =>
      rcases ih with ih | ⟨m, a, b, c⟩
      · by_cases q : dd s k + 1 ≤ dd s (k + 1 + j + 1)
        · refine Or.inl (fun i h1 h2 => ?_)
          by_cases q2 : i = k + 1 + j + 1
          · rw [q2]; exact q
          · exact ih i h1 (by omega)
        · have hm := ih (k + 1 + j) (by omega) (by omega)
          have st : dd s (k + 1 + j + 1) = dd s (k + 1 + j) + endv (pg s (k + 1 + j)) := rfl
          have vb := endv_b (pg s (k + 1 + j))
          have p2 : pg s (k + 1 + j) = 2 := by
            rcases bal_p h (k + 1 + j) with p | p | p
            · rw [p, endv_0] at st; omega
            · rw [p, endv_1] at st; omega
            · exact p
          exact Or.inr ⟨k + 1 + j, by omega, by omega, p2, by omega, ih⟩
      · exact Or.inr ⟨m, a, by omega, c⟩
  rcases key (n - (k + 1)) with u | ⟨m, a, b, c⟩
  · have := u n kn (by omega)
    have := h.2.2.2
    omega
  · exact ⟨m, a, by omega, c⟩
/-- and of one that closes -/
theorem mate_l {n s k : Nat} (h : bal n s) (hk : pg s k = 2) : ∃ m, m < k ∧ pg s m = 1 ∧ dd s m = dd s (k + 1) ∧ ∀ i, m < i → i ≤ k → dd s (k + 1) + 1 ≤ dd s i := by
  have k1 : dd s (k + 1) = dd s k - 1 := by show dd s k + endv (pg s k) = _; rw [hk, endv_2]; omega
  have d0 := h.2.2.1 (k + 1)
  have key : ∀ j, j ≤ k → (∀ i, k - j ≤ i → i ≤ k → dd s (k + 1) + 1 ≤ dd s i) ∨ ∃ m, k - j ≤ m ∧ m < k ∧ pg s m = 1 ∧ dd s m = dd s (k + 1) ∧ ∀ i, m < i → i ≤ k → dd s (k + 1) + 1 ≤ dd s i := by
    intro j
    induction j with
    | zero => exact fun _ => Or.inl (fun i h1 h2 => by rw [show i = k by omega]; omega)
    | succ j ih =>
      intro hj
      rcases ih (by omega) with u | ⟨m, a, b, c⟩
      · by_cases q : dd s (k + 1) + 1 ≤ dd s (k - (j + 1))
        · refine Or.inl (fun i h1 h2 => ?_)
          by_cases q2 : i = k - (j + 1)
          · rw [q2]; exact q
          · exact u i (by omega) h2
        · have hm := u (k - j) (by omega) (by omega)
          have st : dd s (k - j) = dd s (k - (j + 1)) + endv (pg s (k - (j + 1))) := by
            rw [show k - j = k - (j + 1) + 1 by omega]; rfl
          have p1 : pg s (k - (j + 1)) = 1 := by
            rcases bal_p h (k - (j + 1)) with p | p | p
            · rw [p, endv_0] at st; omega
            · exact p
            · rw [p, endv_2] at st; omega
          rw [p1, endv_1] at st
          exact Or.inr ⟨k - (j + 1), by omega, by omega, p1, by omega, fun i h1 h2 => u i (by omega) h2⟩
      · exact Or.inr ⟨m, by omega, b, c⟩
  rcases key k (by omega) with u | ⟨m, a, b, c⟩
  · have := u 0 (by omega) (by omega)
    have z : dd s 0 = 0 := rfl
    omega
  · exact ⟨m, b, c⟩
/-- two ends go, and the mate of one of them changes its side -/
theorem bal_r {n s x m : Nat} (h : bal n s) (ha : pg s x = 1) (hb : pg s (x + 1) = 1) (hm : x + 1 < m) (hn : m < n) (h2 : pg s m = 2) (hl : ∀ i, x + 1 < i → i ≤ m → dd s (x + 1) + 1 ≤ dd s i) : bal n (putE (putE (putE s x 0) (x + 1) 0) m 1) := by
  generalize ht : putE (putE (putE s x 0) (x + 1) 0) m 1 = t
  have e : ∀ k, pg t k = if k = m then 1 else if k = x + 1 then 0 else if k = x then 0 else pg s k := fun k => by
    rw [← ht, pg_putE (by omega), pg_putE (by omega), pg_putE (by omega)]
  have z1 : dd s 0 = 0 := rfl
  have z2 : dd t 0 = 0 := rfl
  have d0 := h.2.2.1 x
  have s1 : dd s (x + 1) = dd s x + 1 := by show dd s x + endv (pg s x) = _; rw [ha]; rfl
  have s2 : dd s (x + 2) = dd s x + 2 := by show dd s (x + 1) + endv (pg s (x + 1)) = _; rw [hb, s1, endv_1]; omega
  have lo : ∀ i, i ≤ x → dd t i = dd s i := fun i hi => by
    have := dd_cc (s := s) (t := t) (a := 0) (b := i) (by omega) (fun k _ h2 => by rw [e, if_neg (by omega), if_neg (by omega), if_neg (by omega)])
    omega
  have t1 : dd t (x + 1) = dd s x := by
    show dd t x + endv (pg t x) = _
    rw [e, if_neg (by omega), if_neg (by omega), if_pos rfl, lo x (by omega), endv_0]; omega
  have t2 : dd t (x + 2) = dd s x := by
    show dd t (x + 1) + endv (pg t (x + 1)) = _
    rw [e, if_neg (by omega), if_pos rfl, t1, endv_0]; omega
  have mi : ∀ i, x + 2 ≤ i → i ≤ m → dd t i = dd s i - 2 := fun i h1 h2 => by
    have := dd_cc (s := s) (t := t) (a := x + 2) (b := i) h1 (fun k h3 h4 => by rw [e, if_neg (by omega), if_neg (by omega), if_neg (by omega)])
    omega
  have t3 : dd t (m + 1) = dd s (m + 1) := by
    show dd t m + endv (pg t m) = dd s m + endv (pg s m)
    rw [e, if_pos rfl, h2, mi m (by omega) (by omega), endv_1, endv_2]; omega
  have hi : ∀ i, m + 1 ≤ i → dd t i = dd s i := fun i h1 => by
    have := dd_cc (s := s) (t := t) (a := m + 1) (b := i) h1 (fun k h3 h4 => by rw [e, if_neg (by omega), if_neg (by omega), if_neg (by omega)])
    omega
  refine ⟨fun k => ?_, fun k hk => ?_, fun i => ?_, ?_⟩
  · rw [e]
    have := h.1 k
    split
    · omega
    · split
      · omega
      · split <;> omega
  · rw [e, if_neg (by omega), if_neg (by omega), if_neg (by omega)]; exact h.2.1 k hk
  · by_cases q1 : i ≤ x
    · rw [lo i q1]; exact h.2.2.1 i
    · by_cases q2 : i = x + 1
      · rw [q2, t1]; exact d0
      · by_cases q3 : i ≤ m
        · rw [mi i (by omega) q3]
          have := hl i (by omega) q3
          omega
        · rw [hi i (by omega)]; exact h.2.2.1 i
  · rw [hi n (by omega)]; exact h.2.2.2
theorem bal_l {n s x m : Nat} (h : bal n s) (hx : x + 1 < n) (ha : pg s x = 2) (hb : pg s (x + 1) = 2) (hm : m < x) (h1 : pg s m = 1) (hl : ∀ i, m < i → i ≤ x → dd s (x + 1) + 1 ≤ dd s i) : bal n (putE (putE (putE s x 0) (x + 1) 0) m 2) := by
  generalize ht : putE (putE (putE s x 0) (x + 1) 0) m 2 = t
  have e : ∀ k, pg t k = if k = m then 2 else if k = x + 1 then 0 else if k = x then 0 else pg s k := fun k => by
    rw [← ht, pg_putE (by omega), pg_putE (by omega), pg_putE (by omega)]
  have z1 : dd s 0 = 0 := rfl
  have z2 : dd t 0 = 0 := rfl
  have d2 := h.2.2.1 (x + 2)
  have s1 : dd s (x + 1) = dd s x - 1 := by show dd s x + endv (pg s x) = _; rw [ha, endv_2]; omega
  have s2 : dd s (x + 2) = dd s x - 2 := by show dd s (x + 1) + endv (pg s (x + 1)) = _; rw [hb, s1, endv_2]; omega
  have lo : ∀ i, i ≤ m → dd t i = dd s i := fun i hi => by
    have := dd_cc (s := s) (t := t) (a := 0) (b := i) (by omega) (fun k _ h2 => by rw [e, if_neg (by omega), if_neg (by omega), if_neg (by omega)])
    omega
  have tm : dd t (m + 1) = dd s (m + 1) - 2 := by
    show dd t m + endv (pg t m) = dd s m + endv (pg s m) - 2
    rw [e, if_pos rfl, h1, lo m (by omega), endv_1, endv_2]; omega
  have mi : ∀ i, m + 1 ≤ i → i ≤ x → dd t i = dd s i - 2 := fun i h1 h2 => by
    have := dd_cc (s := s) (t := t) (a := m + 1) (b := i) h1 (fun k h3 h4 => by rw [e, if_neg (by omega), if_neg (by omega), if_neg (by omega)])
    omega
  have t1 : dd t (x + 1) = dd s x - 2 := by
    show dd t x + endv (pg t x) = _
    rw [e, if_neg (by omega), if_neg (by omega), if_pos rfl, mi x (by omega) (by omega), endv_0]; omega
  have t2 : dd t (x + 2) = dd s (x + 2) := by
    show dd t (x + 1) + endv (pg t (x + 1)) = _
    rw [e, if_neg (by omega), if_pos rfl, t1, endv_0, s2]; omega
  have hi : ∀ i, x + 2 ≤ i → dd t i = dd s i := fun i h1 => by
    have := dd_cc (s := s) (t := t) (a := x + 2) (b := i) h1 (fun k h3 h4 => by rw [e, if_neg (by omega), if_neg (by omega), if_neg (by omega)])
    omega
  refine ⟨fun k => ?_, fun k hk => ?_, fun i => ?_, ?_⟩
  · rw [e]
    have := h.1 k
    split
    · omega
    · split
      · omega
      · split <;> omega
  · rw [e, if_neg (by omega), if_neg (by omega), if_neg (by omega)]; exact h.2.1 k hk
  · by_cases q1 : i ≤ m
    · rw [lo i q1]; exact h.2.2.1 i
    · by_cases q2 : i = x + 1
      · rw [q2, t1]; omega
      · by_cases q3 : i ≤ x
        · rw [mi i (by omega) q3]
          have := hl i (by omega) q3
          omega
        · rw [hi i (by omega)]; exact h.2.2.1 i
  · rw [hi n (by omega)]; exact h.2.2.2
