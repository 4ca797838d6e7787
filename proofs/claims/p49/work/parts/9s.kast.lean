section KAS
variable {w h : Nat} {S : Nat → Bool}
/-- what stands at the dark cell a and the light cell b -/
def kz (w a b : Nat) : Int := if nb w false a b = true then (if b = a + 8 ∨ a = b + 8 then (if a % 2 = 0 then 1 else -1) else 1) else 0
/-- the signs of one cover -/
def kp (w : Nat) (D L p : Nat → Nat) (i j : Nat) : Int := if D i = p (L j) then kz w (D i) (L j) else 0
/-- all dark cells D and all light cells L -/
def en (n : Nat) (D L : Nat → Nat) (S : Nat → Bool) : Prop := (∀ c, S c = true ↔ (∃ i, i < n ∧ c = D i) ∨ ∃ j, j < n ∧ c = L j) ∧ (∀ i j, i < n → j < n → D i = D j → i = j) ∧ (∀ i j, i < n → j < n → L i = L j → i = j) ∧ (∀ i, i < n → dk (D i) = true) ∧ (∀ i, i < n → dk (L i) = false) ∧ bh 0 S
theorem nb_par {a b : Nat} (bw : w ≤ 8) (hn : nb w false a b = true) : dk b = !dk a := by
  have key : (b % 8 + b / 8) % 2 = 1 - (a % 8 + a / 8) % 2 := by
    unfold nb at hn
    simp only [Bool.or_eq_true, Bool.and_eq_true, decide_eq_true_eq, Bool.false_and, Bool.false_eq_true, or_false, false_and] at hn
    rcases hn with ((hn | hn) | hn) | hn
    · omega
    · omega
    · omega
    · omega
  unfold dk
  by_cases q : (a % 8 + a / 8) % 2 = 0
  · rw [decide_eq_true q, decide_eq_false (by omega)]; rfl
  · rw [decide_eq_false q, decide_eq_true (by omega)]; rfl
theorem cv_0 {w : Nat} {r : Bool} (bw : w ≤ 8) (hr : r = true → 4 ≤ w) (h : ∀ c, S c = false) : cv_T w r 0 S = 1 := by
  have hb : bh 0 S := fun j hj => by rw [h j] at hj; cases hj
  have hp : pc w r S (fun j => j) := fun j hj => by rw [h j] at hj; cases hj
  have a := (rk_ok bw hr rfl hb hp).1
  refine Nat.le_antisymm (Nat.le_of_not_lt fun e => ?_) (by omega)
  have b0 := (ur_ok (m := 0) bw hr rfl hb (by omega)).2
  have b1 := (ur_ok (m := 1) bw hr rfl hb e).2
  have := rk_c (w := w) (r := r) (i := 0) (S := S) (p := ur w r 0 S 0) (q := ur w r 0 S 1) rfl (fun j hj => by rw [h j] at hj; cases hj)
  omega
/-- a sum over cells is one over their numbers -/
theorem sm_re {g : Nat → Nat} {D : Nat → Nat} {n M : Nat} (hD : ∀ i, i < n → D i < M) (hi : ∀ i j, i < n → j < n → D i = D j → i = j) (h0 : ∀ o, o < M → g o ≠ 0 → ∃ i, i < n ∧ o = D i) : fb_sm g M = fb_sm (fun i => g (D i)) n := by
  have e1 : fb_sm (fun i => g (D i)) n = fb_sm (fun i => fb_sm (fun o => if D i = o then g o else 0) M) n := fb_sm_cong (fun i hi2 => (sm_one (f := g) (hD i hi2)).symm)
  rw [e1, sm_swp2]
  refine fb_sm_cong (fun o ho => ?_)
  by_cases q : g o = 0
  · rw [q]
    have : fb_sm (fun i => if D i = o then 0 else 0) n = fb_sm (fun _ => 0) n := fb_sm_cong (fun i _ => by split <;> rfl)
    rw [this, fb_sm_0]
  · obtain ⟨i, i1, i2⟩ := h0 o ho q
    have : fb_sm (fun k => if D k = o then g o else 0) n = fb_sm (fun k => if i = k then g o else 0) n := fb_sm_cong (fun k hk => by
      by_cases q2 : i = k
      · rw [if_pos q2, if_pos (by rw [← q2]; exact i2.symm)]
      · rw [if_neg q2, if_neg (fun e => q2 (hi i k i1 hk (by rw [e]; exact i2.symm)))])
    rw [this]
    exact (sm_one (f := fun _ => g o) i1).symm
theorem kz_1 {a b : Nat} (hn : nb w false a b = true) : kz w a b = 1 ∨ kz w a b = -1 := by
  unfold kz
  rw [if_pos hn]
  split
  · split
    · exact Or.inl rfl
    · exact Or.inr rfl
  · exact Or.inl rfl
theorem sg1_1 (i : Nat) : sg1 i = 1 ∨ sg1 i = -1 := by
  unfold sg1
  split
  · exact Or.inl rfl
  · exact Or.inr rfl
theorem upp_in {i r s : Nat} (e : upp i r = upp i s) : r = s := by
  unfold upp at e
  split at e <;> split at e <;> omega
theorem upp_ex {i k n : Nat} (hk : k < n + 1) (hne : k ≠ i) : ∃ r, r < n + 1 ∧ upp i r = k ∧ (i < n + 1 → r < n) := by
  by_cases q : k < i
  · exact ⟨k, by omega, by unfold upp; rw [if_pos q], by omega⟩
  · exact ⟨k - 1, by omega, by unfold upp; rw [if_neg (by omega)]; omega, by omega⟩
/-- without the first light cell and one of its dark cells -/
theorem en_rm {n i : Nat} {D L : Nat → Nat} (he : en (n + 1) D L S) (hi : i < n + 1) : en n (fun r => D (upp i r)) (fun c => L (c + 1)) (cv_rm S (L 0) (D i)) := by
  obtain ⟨h1, h2, h3, h4, h5, h6⟩ := he
  have dl : ∀ a b, a < n + 1 → b < n + 1 → D a ≠ L b := fun a b ha hb e => by
    have x := h4 a ha
    rw [e, h5 b hb] at x; cases x
  refine ⟨fun c => ?_, fun a b ha hb e => upp_in (h2 _ _ (upp_lt hi ha) (upp_lt hi hb) e), fun a b ha hb e => ?_, fun a ha => h4 _ (upp_lt hi ha), fun a ha => h5 _ (by omega), bh_rm0 h6⟩
  · rw [cv_rm_t, h1]
    constructor
    · rintro ⟨⟨k, hk, e⟩ | ⟨k, hk, e⟩, n1, n2⟩
      · obtain ⟨r, r1, r2, r3⟩ := upp_ex hk (fun q => n2 (by rw [e, q]))
        exact Or.inl ⟨r, r3 hi, by show c = D (upp i r); rw [r2]; exact e⟩
      · have k0 : k ≠ 0 := fun q => n1 (by rw [e, q])
        exact Or.inr ⟨k - 1, by omega, by show c = L (k - 1 + 1); rw [show k - 1 + 1 = k by omega]; exact e⟩
    · rintro (⟨k, hk, e⟩ | ⟨k, hk, e⟩)
      · refine ⟨Or.inl ⟨_, upp_lt hi hk, e⟩, fun q => ?_, fun q => ?_⟩
        · exact dl _ 0 (upp_lt hi hk) (by omega) (Eq.trans e.symm q)
        · exact upp_ne i k (h2 _ _ (upp_lt hi hk) hi (Eq.trans e.symm q))
      · refine ⟨Or.inr ⟨k + 1, by omega, e⟩, fun q => ?_, fun q => ?_⟩
        · have := h3 (k + 1) 0 (by omega) (by omega) (Eq.trans e.symm q)
          omega
        · exact dl i (k + 1) hi (by omega) (Eq.trans q.symm e)
  · have := h3 (a + 1) (b + 1) (by omega) (by omega) e
    omega
theorem kas (bw : w ≤ 8) : ∀ (n : Nat) {D L : Nat → Nat} {S : Nat → Bool} {ε : Int}, en n D L S → (∀ p, pc w false S p → dt n (kp w D L p) = ε) → dt n (fun i j => kz w (D i) (L j)) = ε * (cv_T w false 0 S : Int)
  | 0, D, L, S, ε, he, hp => by
    have none : ∀ c, S c = false := fun c => by
      cases e : S c
      · rfl
      · rcases (he.1 c).mp e with ⟨i, hi, _⟩ | ⟨i, hi, _⟩
        · omega
        · omega
    have e : (1 : Int) = ε := hp (fun j => j) (fun j hj => by rw [none j] at hj; cases hj)
    rw [cv_0 bw (fun q => by cases q) none, ← e]; rfl
  | n + 1, D, L, S, ε, he, hp => by
    have he0 := he
    obtain ⟨h1, h2, h3, h4, h5, h6⟩ := he
    have nbi : ∀ a, nb w false a a = false := fun a => nb_i (Or.inr rfl)
    have dl : ∀ a b, a < n + 1 → b < n + 1 → D a ≠ L b := fun a b ha hb e => by
      have x := h4 a ha
      rw [e, h5 b hb] at x; cases x
    have hc : S (L 0) = true := (h1 _).mpr (Or.inr ⟨0, by omega, rfl⟩)
    have hDS : ∀ i, i < n + 1 → S (D i) = true := fun i hi => (h1 _).mpr (Or.inl ⟨i, hi, rfl⟩)
    have hLS : ∀ i, i < n + 1 → S (L i) = true := fun i hi => (h1 _).mpr (Or.inr ⟨i, hi, rfl⟩)
    have cnt : cv_T w false 0 S = fb_sm (fun i => if nb w false (L 0) (D i) = true then cv_T w false 0 (cv_rm S (L 0) (D i)) else 0) (n + 1) := by
      rw [any_c bw (fun q => by cases q) nbi h6 hc, sm_re (D := D) (n := n + 1) (fun i hi => (h6 _ (hDS i hi)).2) h2 ?_]
      · refine fb_sm_cong (fun i hi => ?_)
        by_cases q : nb w false (L 0) (D i) = true
        · rw [if_pos q, if_pos ⟨hDS i hi, q⟩]
        · rw [if_neg q, if_neg (fun u => q u.2)]
      · intro o ho hne
        by_cases q : S o = true ∧ nb w false (L 0) o = true
        · rcases (h1 o).mp q.1 with u | ⟨j, hj, e⟩
          · exact u
          · exfalso
            have := nb_par bw q.2
            rw [e, h5 j hj, h5 0 (by omega)] at this
            exact absurd this (by decide)
        · rw [if_neg q] at hne; exact absurd rfl hne
    rw [dt_s, cnt]
    rw [← fb_si_nat, ← fb_si_mul]
    refine fb_si_cong (fun i hi => ?_)
    by_cases q : nb w false (L 0) (D i) = true
    · rw [if_pos q]
      have q' := nb_s q
      obtain ⟨s, hs⟩ : ∃ s, s = sg1 i * kz w (D i) (L 0) := ⟨_, rfl⟩
      have s1 : s = 1 ∨ s = -1 := by
        rw [hs]
        rcases sg1_1 i with a | a <;> rcases kz_1 q' with b | b <;> rw [a, b] <;> decide
      have ih := kas bw n (ε := ε * s) (en_rm he0 hi) (fun p' hp' => by
        have pp := pc_sw hp' hc (hDS i hi) (fun e => dl i 0 hi (by omega) e.symm) q
        have e := hp _ pp
        have p0 : sw (L 0) (D i) p' (L 0) = D i := by unfold sw; rw [if_pos rfl]
        rw [dt_one (k := i) hi (fun r hr hne => by
          unfold kp
          rw [p0, if_neg (fun e => hne (h2 r i hr hi e))])] at e
        have k0 : kp w D L (sw (L 0) (D i) p') i 0 = kz w (D i) (L 0) := by unfold kp; rw [p0, if_pos rfl]
        have km : dt n (fun r c => kp w D L (sw (L 0) (D i) p') (upp i r) (c + 1)) = dt n (kp w (fun r => D (upp i r)) (fun c => L (c + 1)) p') := dt_c n (fun r c hr hc2 => by
          unfold kp
          have : sw (L 0) (D i) p' (L (c + 1)) = p' (L (c + 1)) := by
            unfold sw
            rw [if_neg (fun e => by have := h3 _ _ (by omega) (by omega) e; omega), if_neg (fun e => dl i (c + 1) hi (by omega) e.symm)]
          rw [this])
        rw [k0, km, ← hs] at e
        rcases s1 with a | a
        · rw [a, Int.one_mul] at e
          rw [a, Int.mul_one]; exact e
        · rw [a] at e
          rw [a]; omega)
      rw [ih, ← hs]
      rcases s1 with a | a
      · rw [a, Int.one_mul, Int.mul_one]
      · rw [a]
        rw [Int.mul_neg, Int.mul_one, Int.neg_mul, Int.neg_mul, Int.one_mul, Int.neg_neg]
    · rw [if_neg q]
      have : kz w (D i) (L 0) = 0 := by
        unfold kz
        rw [if_neg (fun e => q (nb_s e))]
      rw [this, Int.mul_zero, Int.zero_mul]
      exact (Int.mul_zero _).symm
end KAS
