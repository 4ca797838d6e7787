section DET
def sg1 (i : Nat) : Int := if i % 2 = 0 then 1 else -1
def upp (i r : Nat) : Nat := if r < i then r else r + 1
def dt : Nat → (Nat → Nat → Int) → Int
  | 0, _ => 1
  | n + 1, A => fb_si (fun i => sg1 i * A i 0 * dt n (fun r c => A (upp i r) (c + 1))) (n + 1)
theorem dt_s (n : Nat) (A : Nat → Nat → Int) : dt (n + 1) A = fb_si (fun i => sg1 i * A i 0 * dt n (fun r c => A (upp i r) (c + 1))) (n + 1) := rfl
theorem upp_lt {i r n : Nat} (hi : i < n + 1) (h : r < n) : upp i r < n + 1 := by
  unfold upp
  split <;> omega
theorem upp_ne (i r : Nat) : upp i r ≠ i := by
  unfold upp
  split <;> omega
theorem sg1_s (i : Nat) : sg1 (i + 1) = - sg1 i := by
  unfold sg1
  by_cases q : i % 2 = 0
  · rw [if_pos q, if_neg (by omega)]
  · rw [if_neg q, if_pos (by omega)]; rfl
theorem dt_c : ∀ (n : Nat) {A B : Nat → Nat → Int}, (∀ r c, r < n → c < n → A r c = B r c) → dt n A = dt n B
  | 0, _, _, _ => rfl
  | n + 1, A, B, h => by
    rw [dt_s, dt_s]
    refine fb_si_cong (fun i hi => ?_)
    rw [h i 0 hi (by omega), dt_c n (fun r c hr hc => h _ _ (upp_lt hi hr) (by omega))]
theorem dt_lin : ∀ (n : Nat) {A B C : Nat → Nat → Int} {k : Nat} (t : Int), k < n → (∀ r c, r < n → c < n → r ≠ k → B r c = A r c ∧ C r c = A r c) → (∀ c, c < n → A k c = B k c + t * C k c) → dt n A = dt n B + t * dt n C
  | 0, _, _, _, _, _, hk, _, _ => absurd hk (Nat.not_lt_zero _)
  | n + 1, A, B, C, k, t, hk, h1, h2 => by
    rw [dt_s, dt_s, dt_s, ← fb_si_mul, ← fb_si_add]
    refine fb_si_cong (fun i hi => ?_)
    by_cases q : i = k
    · have eB : dt n (fun r c => B (upp i r) (c + 1)) = dt n (fun r c => A (upp i r) (c + 1)) := dt_c n (fun r c hr hc => (h1 _ _ (upp_lt hi hr) (by omega) (by rw [← q]; exact upp_ne i r)).1)
      have eC : dt n (fun r c => C (upp i r) (c + 1)) = dt n (fun r c => A (upp i r) (c + 1)) := dt_c n (fun r c hr hc => (h1 _ _ (upp_lt hi hr) (by omega) (by rw [← q]; exact upp_ne i r)).2)
      rw [eB, eC, q, h2 0 (by omega)]
      generalize dt n (fun r c => A (upp k r) (c + 1)) = D
      rw [Int.mul_add, Int.add_mul]
      congr 1
      rw [← Int.mul_assoc, ← Int.mul_assoc, ← Int.mul_assoc, Int.mul_comm t (sg1 k)]
    · have e0 := h1 i 0 hi (by omega) q
      obtain ⟨k', hk'⟩ : ∃ k', k' = if i < k then k - 1 else k := ⟨_, rfl⟩
      have uk : upp i k' = k := by
        unfold upp
        rw [hk']
        by_cases q2 : i < k
        · rw [if_pos q2, if_neg (by omega)]; omega
        · rw [if_neg q2, if_pos (by omega)]
      have k'n : k' < n := by
        rw [hk']
        split <;> omega
      have one : ∀ r, upp i r = k → r = k' := fun r e => by
        unfold upp at e
        rw [hk']
        split at e <;> split <;> omega
      have ih := dt_lin n (A := fun r c => A (upp i r) (c + 1)) (B := fun r c => B (upp i r) (c + 1)) (C := fun r c => C (upp i r) (c + 1)) (k := k') t k'n (fun r c hr hc hne => h1 _ _ (upp_lt hi hr) (by omega) (fun e => hne (one r e))) (fun c hc => by
        show A (upp i k') (c + 1) = B (upp i k') (c + 1) + t * C (upp i k') (c + 1)
        rw [uk]; exact h2 _ (by omega))
      rw [ih, e0.1, e0.2, Int.mul_add]
      congr 1
      rw [← Int.mul_assoc, ← Int.mul_assoc, Int.mul_comm t]
theorem si_sw : ∀ (n : Nat) {f g : Nat → Int} {k : Nat}, k + 1 < n → (∀ i, i < n → i ≠ k → i ≠ k + 1 → f i = - g i) → f k = - g (k + 1) → f (k + 1) = - g k → fb_si f n = - fb_si g n := by
  have neg : ∀ (n : Nat) {f g : Nat → Int}, (∀ i, i < n → f i = - g i) → fb_si f n = - fb_si g n := by
    intro n
    induction n with
    | zero => intro f g _; rfl
    | succ n ih =>
      intro f g h
      rw [fb_si_succ, fb_si_succ, ih (fun i hi => h i (by omega)), h n (by omega), Int.neg_add]
  intro n
  induction n with
  | zero => intro f g k hk; exact absurd hk (Nat.not_lt_zero _)
  | succ n ih =>
    intro f g k hk h h1 h2
    by_cases q : k + 1 < n
    · rw [fb_si_succ, fb_si_succ, ih q (fun i hi => h i (by omega)) h1 h2, h n (by omega) (by omega) (by omega), Int.neg_add]
    · have : n = k + 1 := by omega
      subst this
      rw [fb_si_succ, fb_si_succ, fb_si_succ, fb_si_succ, neg k (fun i hi => h i (by omega) (by omega) (by omega)), h1, h2]
      omega
/-- rows k and k + 1 for one another -/
def adj (k r : Nat) : Nat := if r = k then k + 1 else if r = k + 1 then k else r
theorem dt_adj : ∀ (n : Nat) {A : Nat → Nat → Int} {k : Nat}, k + 1 < n → dt n (fun r c => A (adj k r) c) = - dt n A
  | 0, _, _, hk => absurd hk (Nat.not_lt_zero _)
  | n + 1, A, k, hk => by
    rw [dt_s, dt_s]
    have a1 : adj k k = k + 1 := if_pos rfl
    have a2 : adj k (k + 1) = k := by unfold adj; rw [if_neg (by omega), if_pos rfl]
    refine si_sw (n + 1) hk (fun i hi q1 q2 => ?_) ?_ ?_
    · have a3 : adj k i = i := by unfold adj; rw [if_neg q1, if_neg q2]
      obtain ⟨k', hk'⟩ : ∃ k', k' = if i < k then k - 1 else k := ⟨_, rfl⟩
      have k'n : k' + 1 < n := by
        rw [hk']
        split <;> omega
      have ih := dt_adj n (A := fun r c => A (upp i r) (c + 1)) (k := k') k'n
      have e : dt n (fun r c => A (adj k (upp i r)) (c + 1)) = dt n (fun r c => A (upp i (adj k' r)) (c + 1)) := dt_c n (fun r c _ _ => by
        have : adj k (upp i r) = upp i (adj k' r) := by
          unfold upp adj
          rw [hk']
          repeat' split
          all_goals omega
        rw [this])
      show sg1 i * A (adj k i) 0 * dt n (fun r c => A (adj k (upp i r)) (c + 1)) = - (sg1 i * A i 0 * dt n (fun r c => A (upp i r) (c + 1)))
      rw [a3, e, ← Int.mul_neg]
      congr 1
    · show sg1 k * A (adj k k) 0 * dt n (fun r c => A (adj k (upp k r)) (c + 1)) = - (sg1 (k + 1) * A (k + 1) 0 * dt n (fun r c => A (upp (k + 1) r) (c + 1)))
      have e : dt n (fun r c => A (adj k (upp k r)) (c + 1)) = dt n (fun r c => A (upp (k + 1) r) (c + 1)) := dt_c n (fun r c _ _ => by
        have : adj k (upp k r) = upp (k + 1) r := by
          unfold upp adj
          repeat' split
          all_goals omega
        rw [this])
      rw [a1, e, sg1_s, Int.neg_mul, Int.neg_mul, Int.neg_neg]
    · show sg1 (k + 1) * A (adj k (k + 1)) 0 * dt n (fun r c => A (adj k (upp (k + 1) r)) (c + 1)) = - (sg1 k * A k 0 * dt n (fun r c => A (upp k r) (c + 1)))
      have e : dt n (fun r c => A (adj k (upp (k + 1) r)) (c + 1)) = dt n (fun r c => A (upp k r) (c + 1)) := dt_c n (fun r c _ _ => by
        have : adj k (upp (k + 1) r) = upp k r := by
          unfold upp adj
          repeat' split
          all_goals omega
        rw [this])
      rw [a2, e, sg1_s, Int.neg_mul, Int.neg_mul]
def tsp (i q r : Nat) : Nat := if r = i then q else if r = q then i else r
theorem dt_tsp : ∀ (d : Nat) {n i : Nat} {A : Nat → Nat → Int}, i + d + 1 < n → dt n (fun r c => A (tsp i (i + d + 1) r) c) = - dt n A
  | 0, n, i, A, h => dt_adj n (A := A) (k := i) h
  | d + 1, n, i, A, h => by
    have e : dt n (fun r c => A (tsp i (i + (d + 1) + 1) r) c) = dt n (fun r c => A (adj i (tsp (i + 1) (i + 1 + d + 1) (adj i r))) c) := dt_c n (fun r c _ _ => by
      have : tsp i (i + (d + 1) + 1) r = adj i (tsp (i + 1) (i + 1 + d + 1) (adj i r)) := by
        unfold tsp adj
        repeat' split
        all_goals omega
      rw [this])
    have e1 := dt_adj n (A := fun r c => A (adj i (tsp (i + 1) (i + 1 + d + 1) r)) c) (k := i) (by omega)
    have e2 := dt_tsp d (n := n) (i := i + 1) (A := fun r c => A (adj i r) c) (by omega)
    have e3 := dt_adj n (A := A) (k := i) (by omega)
    rw [e]
    refine Eq.trans e1 ?_
    rw [show dt n (fun r c => A (adj i (tsp (i + 1) (i + 1 + d + 1) r)) c) = - dt n (fun r c => A (adj i r) c) from e2, e3, Int.neg_neg]
theorem dt_sw {n i q : Nat} {A : Nat → Nat → Int} (hiq : i < q) (hq : q < n) : dt n (fun r c => A (tsp i q r) c) = - dt n A := by
  have := dt_tsp (q - i - 1) (n := n) (i := i) (A := A) (by omega)
  rw [show i + (q - i - 1) + 1 = q by omega] at this
  exact this
theorem dt_eq {n i q : Nat} {A : Nat → Nat → Int} (hiq : i < q) (hq : q < n) (h : ∀ c, c < n → A i c = A q c) : dt n A = 0 := by
  have e := dt_sw (A := A) hiq hq
  have e2 : dt n (fun r c => A (tsp i q r) c) = dt n A := dt_c n (fun r c _ hc => by
    unfold tsp
    by_cases q1 : r = i
    · rw [if_pos q1, q1, h c hc]
    · rw [if_neg q1]
      by_cases q2 : r = q
      · rw [if_pos q2, q2, h c hc]
      · rw [if_neg q2])
  rw [e2] at e
  omega
/-- a row and some times another one -/
theorem dt_plus {n j k : Nat} {A B : Nat → Nat → Int} (t : Int) (hj : j < n) (hk : k < n) (hjk : j ≠ k) (h : ∀ r c, r < n → c < n → A r c = if r = k then B k c + t * B j c else B r c) : dt n A = dt n B := by
  have e := dt_lin n (A := A) (B := B) (C := fun r c => if r = k then B j c else B r c) t hk (fun r c hr hc hne => by
    rw [h r c hr hc, if_neg hne]
    exact ⟨rfl, by rw [if_neg hne]⟩) (fun c hc => by
    rw [h k c hk hc, if_pos rfl, if_pos rfl])
  have z : dt n (fun r c => if r = k then B j c else B r c) = 0 := by
    rcases Nat.lt_or_gt_of_ne hjk with q | q
    · exact dt_eq q hk (fun c _ => by rw [if_neg hjk, if_pos rfl])
    · exact dt_eq q hj (fun c _ => by rw [if_neg hjk, if_pos rfl])
  rw [e, z, Int.mul_zero, Int.add_zero]
theorem dt_clr {n : Nat} {A : Nat → Nat → Int} (g : Nat → Int) (hn : 0 < n) : ∀ m, m ≤ n → dt n (fun r c => if 0 < r ∧ r < m then A r c - g r * A 0 c else A r c) = dt n A
  | 0, _ => dt_c n (fun r c _ _ => by rw [if_neg (by omega)])
  | m + 1, hm => by
    have ih := dt_clr (A := A) g hn m (by omega)
    rw [← ih]
    by_cases q : m = 0
    · subst q
      exact dt_c n (fun r c _ _ => by rw [if_neg (by omega), if_neg (by omega)])
    · refine dt_plus (j := 0) (k := m) (- g m) hn (by omega) (by omega) (fun r c hr hc => ?_)
      by_cases q2 : r = m
      · have e1 : (if 0 < r ∧ r < m + 1 then A r c - g r * A 0 c else A r c) = A r c - g r * A 0 c := if_pos ⟨by omega, by omega⟩
        have e2 : (if 0 < m ∧ m < m then A m c - g m * A 0 c else A m c) = A m c := if_neg (by omega)
        have e3 : (if 0 < 0 ∧ 0 < m then A 0 c - g 0 * A 0 c else A 0 c) = A 0 c := if_neg (by omega)
        rw [if_pos q2, e1, e2, e3, q2, Int.neg_mul, Int.sub_eq_add_neg]
      · rw [if_neg q2]
        by_cases q3 : 0 < r ∧ r < m
        · have e1 : (if 0 < r ∧ r < m + 1 then A r c - g r * A 0 c else A r c) = A r c - g r * A 0 c := if_pos ⟨by omega, by omega⟩
          rw [e1, if_pos q3]
        · have e1 : (if 0 < r ∧ r < m + 1 then A r c - g r * A 0 c else A r c) = A r c := if_neg (by omega)
          rw [e1, if_neg q3]
theorem dsi_0 {f : Nat → Int} : ∀ {n : Nat}, (∀ i, i < n → f i = 0) → fb_si f n = 0
  | 0, _ => rfl
  | n + 1, h => by
    rw [fb_si_succ, dsi_0 (n := n) (fun i hi => h i (by omega)), h n (by omega)]; rfl
theorem dsi_1 {f : Nat → Int} {k : Nat} : ∀ {n : Nat}, k < n → (∀ i, i < n → i ≠ k → f i = 0) → fb_si f n = f k
  | 0, hk, _ => absurd hk (Nat.not_lt_zero _)
  | n + 1, hk, h => by
    rw [fb_si_succ]
    by_cases q : k = n
    · rw [dsi_0 (fun i hi => h i (by omega) (by omega)), q, Int.zero_add]
    · rw [dsi_1 (n := n) (by omega) (fun i hi => h i (by omega)), h n (by omega) (fun e => q e.symm), Int.add_zero]
theorem dt_one {n k : Nat} {A : Nat → Nat → Int} (hk : k < n + 1) (h : ∀ r, r < n + 1 → r ≠ k → A r 0 = 0) : dt (n + 1) A = sg1 k * A k 0 * dt n (fun r c => A (upp k r) (c + 1)) := by
  rw [dt_s]
  exact dsi_1 hk (fun i hi hne => by rw [h i hi hne, Int.mul_zero, Int.zero_mul])
theorem dt_z {n : Nat} {A : Nat → Nat → Int} (hn : 0 < n) (h : ∀ r, r < n → A r 0 = 0) : dt n A = 0 := by
  obtain ⟨m, rfl⟩ : ∃ m, n = m + 1 := ⟨n - 1, by omega⟩
  rw [dt_s]
  exact dsi_0 (fun i hi => by rw [h i hi, Int.mul_zero, Int.zero_mul])
theorem dvd_mm {p a b c d : Int} (h1 : p ∣ a - b) (h2 : p ∣ c - d) : p ∣ a * c - b * d := by
  have e : a * c - b * d = a * (c - d) + (a - b) * d := by rw [Int.mul_sub, Int.sub_mul]; omega
  rw [e]
  exact Int.dvd_add (Int.dvd_trans h2 (Int.dvd_mul_left _ _)) (Int.dvd_trans h1 (Int.dvd_mul_right _ _))
theorem dt_mod {p : Int} : ∀ (n : Nat) {A B : Nat → Nat → Int}, (∀ r c, r < n → c < n → p ∣ A r c - B r c) → p ∣ dt n A - dt n B
  | 0, _, _, _ => by
    show p ∣ (1 : Int) - 1
    exact ⟨0, by omega⟩
  | n + 1, A, B, h => by
    rw [dt_s, dt_s, ← fb_si_sub]
    have all : ∀ (f : Nat → Int) m, (∀ i, i < m → p ∣ f i) → p ∣ fb_si f m := by
      intro f m
      induction m with
      | zero => intro _; exact ⟨0, (Int.mul_zero p).symm⟩
      | succ m ih => intro hf; exact Int.dvd_add (ih (fun i hi => hf i (by omega))) (hf m (by omega))
    refine all _ _ (fun i hi => ?_)
    refine dvd_mm (dvd_mm ⟨0, by omega⟩ (h i 0 hi (by omega))) (dt_mod n (fun r c hr hc => h _ _ (upp_lt hi hr) (by omega)))
/-- a row times a number -/
theorem dt_row {n k : Nat} {A B : Nat → Nat → Int} (t : Int) (hk : k < n) (h : ∀ r c, r < n → c < n → A r c = if r = k then t * B r c else B r c) : dt n A = t * dt n B := by
  have e := dt_lin n (A := A) (B := fun r c => if r = k then 0 else B r c) (C := B) t hk (fun r c hr hc hne => by
    exact ⟨by rw [h r c hr hc, if_neg hne, if_neg hne], by rw [h r c hr hc, if_neg hne]⟩) (fun c hc => by
    rw [h k c hk hc, if_pos rfl, if_pos rfl, Int.zero_add])
  have z : dt n (fun r c => if r = k then 0 else B r c) = 0 := by
    have e2 := dt_lin n (A := fun r c => if r = k then 0 else B r c) (B := fun r c => if r = k then 0 else B r c) (C := fun r c => if r = k then 0 else B r c) 1 hk (fun r c _ _ _ => ⟨rfl, rfl⟩) (fun c _ => by rw [if_pos rfl]; rfl)
    omega
  rw [e, z, Int.zero_add]
end DET
