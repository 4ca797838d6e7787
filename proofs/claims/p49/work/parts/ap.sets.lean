section CMS
variable {n P : Nat} {f : Nat → plc}
/-- what is known of the places, here -/
def plh (n P : Nat) (f : Nat → plc) : Prop := ∀ p, p < P → (f p).2.2.1 < 2 ^ n ∧ (f p).2.2.1.testBit (f p).1 = true ∧ (∀ j, j < (f p).1 → (f p).2.2.1.testBit j = false) ∧ 3 ≤ pop (f p).2.2.1
/-- X covers the rest, with no more than l pieces of a kind -/
def cmp (n P : Nat) (f : Nat → plc) (c : Nat) (l : Nat → Nat) (X : Nat → Bool) : Prop := (∀ i, X i = true → i < P ∧ c &&& (f i).2.2.1 = 0) ∧ (∀ b, b < n → c.testBit b = false → ∃ i, X i = true ∧ (f i).2.2.1.testBit b = true) ∧ (∀ i i', X i = true → X i' = true → i ≠ i' → (f i).2.2.1 &&& (f i').2.2.1 = 0) ∧ ∀ k, fb_ct (fun i => X i && decide ((f i).2.1 = k)) P ≤ l k
theorem and_0 {a b : Nat} : a &&& b = 0 ↔ ∀ j, ¬ (a.testBit j = true ∧ b.testBit j = true) := by
  constructor
  · intro e j u
    have := congrArg (fun x => Nat.testBit x j) e
    rw [Nat.zero_testBit, Nat.testBit_and, u.1, u.2] at this
    cases this
  · intro h
    refine Nat.eq_of_testBit_eq fun j => ?_
    rw [Nat.zero_testBit, Nat.testBit_and]
    cases a1 : a.testBit j <;> cases b1 : b.testBit j
    · rfl
    · rfl
    · rfl
    · exact absurd ⟨a1, b1⟩ (h j)
/-- the first place of a set that covers the rest -/
theorem cmp_1 (hp : plh n P f) (hn : n ≤ 24) {c : Nat} {l : Nat → Nat} {X : Nat → Bool} (hX : cmp n P f c l X) (hf : ¬ n ≤ tro c) : ∃ i, X i = true ∧ i < P ∧ (f i).1 = tro c ∧ c &&& (f i).2.2.1 = 0 ∧ l (f i).2.1 ≠ 0 := by
  obtain ⟨o, o24, oe, o1, o2⟩ := tro_ex c
  obtain ⟨i, i1, i2⟩ := hX.2.1 o (by omega) (o2 (by omega))
  obtain ⟨iP, dis⟩ := hX.1 i i1
  obtain ⟨p1, p2, p3, p4⟩ := hp i iP
  refine ⟨i, i1, iP, ?_, dis, fun e => ?_⟩
  · rw [oe]
    rcases Nat.lt_trichotomy (f i).1 o with u | u | u
    · exact absurd ⟨o1 _ u, p2⟩ (and_0.mp dis _)
    · exact u
    · rw [p3 _ u] at i2; cases i2
  · have := hX.2.2.2 (f i).2.1
    have pos := (fb_ct_pos (p := fun j => X j && decide ((f j).2.1 = (f i).2.1))).mpr ⟨i, iP, by rw [i1, decide_eq_true rfl]; rfl⟩
    omega
theorem ct_less {p : Nat → Bool} {P i : Nat} (hi : i < P) (h : p i = true) : fb_ct (fun j => p j && !decide (j = i)) P + 1 = fb_ct p P := ct_ex hi h
/-- without one of its places -/
theorem cmp_rm (hp : plh n P f) {c i : Nat} {l : Nat → Nat} {X : Nat → Bool} (hX : cmp n P f c l X) (hi : X i = true) : cmp n P f (c ||| (f i).2.2.1) (lsub l (f i).2.1 1) (fun j => X j && !decide (j = i)) := by
  obtain ⟨h1, h2, h3, h4⟩ := hX
  obtain ⟨iP, dis⟩ := h1 i hi
  refine ⟨fun j hj => ?_, fun b hb h0 => ?_, fun j j' hj hj' hne => ?_, fun k => ?_⟩
  · simp only [Bool.and_eq_true, Bool.not_eq_true', decide_eq_false_iff_not] at hj
    obtain ⟨a, b⟩ := h1 j hj.1
    refine ⟨a, and_0.mpr fun q u => ?_⟩
    rw [Nat.testBit_or, Bool.or_eq_true] at u
    rcases u.1 with v | v
    · exact and_0.mp b q ⟨v, u.2⟩
    · exact and_0.mp (h3 j i hj.1 hi hj.2) q ⟨u.2, v⟩
  · rw [Nat.testBit_or, Bool.or_eq_false_iff] at h0
    obtain ⟨j, j1, j2⟩ := h2 b hb h0.1
    refine ⟨j, ?_, j2⟩
    simp only [Bool.and_eq_true, Bool.not_eq_true', decide_eq_false_iff_not]
    refine ⟨j1, fun e => ?_⟩
    rw [e, h0.2] at j2; cases j2
  · simp only [Bool.and_eq_true, Bool.not_eq_true', decide_eq_false_iff_not] at hj hj'
    exact h3 j j' hj.1 hj'.1 hne
  · have := h4 k
    unfold lsub
    by_cases u : k = (f i).2.1
    · rw [if_pos u]
      have e := ct_less (p := fun j => X j && decide ((f j).2.1 = k)) iP (by rw [hi, decide_eq_true u.symm]; rfl)
      have e2 : fb_ct (fun j => (X j && !decide (j = i)) && decide ((f j).2.1 = k)) P = fb_ct (fun j => (X j && decide ((f j).2.1 = k)) && !decide (j = i)) P := fb_ct_cong (fun j _ => by
        cases X j <;> cases decide (j = i) <;> cases decide ((f j).2.1 = k) <;> rfl)
      rw [e2]
      omega
    · rw [if_neg u]
      refine Nat.le_trans (fb_ct_sub (fun j _ e => ?_)) this
      simp only [Bool.and_eq_true] at e ⊢
      exact ⟨e.1.1, e.2⟩
/-- with one more place -/
theorem cmp_in {c i : Nat} {l : Nat → Nat} {X : Nat → Bool} (iP : i < P) (dis : c &&& (f i).2.2.1 = 0) (l0 : l (f i).2.1 ≠ 0) (hX : cmp n P f (c ||| (f i).2.2.1) (lsub l (f i).2.1 1) X) : cmp n P f c l (fun j => X j || decide (j = i)) := by
  obtain ⟨h1, h2, h3, h4⟩ := hX
  have away : ∀ j, X j = true → (f j).2.2.1 &&& (f i).2.2.1 = 0 := fun j hj => and_0.mpr fun q u => and_0.mp (h1 j hj).2 q ⟨by rw [Nat.testBit_or, u.2, Bool.or_true], u.1⟩
  refine ⟨fun j hj => ?_, fun b hb h0 => ?_, fun j j' hj hj' hne => ?_, fun k => ?_⟩
  · simp only [Bool.or_eq_true, decide_eq_true_eq] at hj
    rcases hj with hj | hj
    · obtain ⟨a, b⟩ := h1 j hj
      exact ⟨a, and_0.mpr fun q u => and_0.mp b q ⟨by rw [Nat.testBit_or, u.1]; rfl, u.2⟩⟩
    · rw [hj]; exact ⟨iP, dis⟩
  · by_cases u : (f i).2.2.1.testBit b = true
    · exact ⟨i, by simp, u⟩
    · obtain ⟨j, j1, j2⟩ := h2 b hb (by rw [Nat.testBit_or, h0]; simpa using u)
      exact ⟨j, by show (X j || decide (j = i)) = true; rw [j1]; rfl, j2⟩
  · simp only [Bool.or_eq_true, decide_eq_true_eq] at hj hj'
    rcases hj with hj | hj
    · rcases hj' with hj' | hj'
      · exact h3 j j' hj hj' hne
      · rw [hj']; exact away j hj
    · rcases hj' with hj' | hj'
      · rw [hj, Nat.and_comm]; exact away j' hj'
      · exact absurd (by rw [hj, hj']) hne
  · have := h4 k
    unfold lsub at this
    have le : fb_ct (fun j => (X j || decide (j = i)) && decide ((f j).2.1 = k)) P ≤ fb_ct (fun j => X j && decide ((f j).2.1 = k)) P + fb_ct (fun j => decide (j = i) && decide ((f j).2.1 = k)) P := by
      have u : ∀ (A B : Nat → Bool) m, fb_ct (fun j => A j || B j) m ≤ fb_ct A m + fb_ct B m := by
        intro A B m
        induction m with
        | zero => exact Nat.le_refl _
        | succ m ih =>
          rw [fb_ct_succ, fb_ct_succ, fb_ct_succ]
          cases A m <;> cases B m <;> simp <;> omega
      refine Nat.le_trans (Nat.le_of_eq (fb_ct_cong (fun j _ => ?_))) (u _ _ P)
      cases X j <;> cases decide (j = i) <;> cases decide ((f j).2.1 = k) <;> rfl
    refine Nat.le_trans le ?_
    by_cases u : k = (f i).2.1
    · subst u
      rw [if_pos rfl] at this
      have one : fb_ct (fun j => decide (j = i) && decide ((f j).2.1 = (f i).2.1)) P ≤ 1 := by
        refine Nat.le_trans (fb_ct_sub (q := fun j => decide (j = i)) (fun j _ e => ?_)) ?_
        · rw [Bool.and_eq_true] at e; exact e.1
        · have := ct_ex (P := fun j => decide (j = i)) iP (decide_eq_true rfl)
          have z : fb_ct (fun j => decide (j = i) && !decide (j = i)) P = 0 := fb_ct_zero.mpr (fun j _ => by cases decide (j = i) <;> rfl)
          omega
      omega
    · rw [if_neg u] at this
      have z : fb_ct (fun j => decide (j = i) && decide ((f j).2.1 = k)) P = 0 := fb_ct_zero.mpr (fun j _ => by
        by_cases v : j = i
        · rw [v, decide_eq_false (show ¬ (f i).2.1 = k from fun e => u e.symm), Bool.and_false]
        · rw [decide_eq_false v, Bool.false_and])
      omega
/-- every set that covers the rest has a number -/
theorem cmp_rk (hp : plh n P f) (hn : n ≤ 24) : ∀ (t c : Nat) (l : Nat → Nat) (X : Nat → Bool), c < 2 ^ n → n ≤ pop c + 3 * t → cmp n P f c l X → ∃ j, j < cnx n P f t c l ∧ ∀ i, X i = true ↔ i ∈ pth n P f t c l j := by
  have full : ∀ t c l X, n ≤ tro c → cmp n P f c l X → ∃ j, j < cnx n P f t c l ∧ ∀ i, X i = true ↔ i ∈ pth n P f t c l j := by
    intro t c l X u hX
    refine ⟨0, by rw [cnx_1 u t]; omega, fun i => ?_⟩
    rw [pth_0 u]
    refine ⟨fun e => ?_, fun e => by cases e⟩
    obtain ⟨iP, dis⟩ := hX.1 i e
    obtain ⟨p1, p2, p3, p4⟩ := hp i iP
    obtain ⟨o, o24, oe, o1, o2⟩ := tro_ex c
    have := tb_in p1 p2
    exact absurd ⟨o1 _ (by omega), p2⟩ (and_0.mp dis _)
  intro t
  induction t with
  | zero =>
    intro c l X hc ht hX
    exact full 0 c l X (by have := pop_full hc hn (by omega); omega) hX
  | succ t' ih =>
    intro c l X hc ht hX
    by_cases u : n ≤ tro c
    · exact full _ c l X u hX
    · obtain ⟨i, i1, iP, i2, i3, i4⟩ := cmp_1 hp hn hX u
      have po := pop_or i3
      obtain ⟨p1, p2, p3, p4⟩ := hp i iP
      obtain ⟨j, j1, j2⟩ := ih _ _ _ (Nat.or_lt_two_pow hc p1) (by omega) (cmp_rm hp hX i1)
      have te : tm n P f t' c l i = cnx n P f t' (c ||| (f i).2.2.1) (lsub l (f i).2.1 1) := by
        unfold tm
        rw [if_pos ⟨i2, i3, i4⟩]
      have lt : fb_sm (tm n P f t' c l) i + j < fb_sm (tm n P f t' c l) (i + 1) := by rw [fb_sm_succ, te]; omega
      have mono : fb_sm (tm n P f t' c l) (i + 1) ≤ fb_sm (tm n P f t' c l) P := by
        obtain ⟨d, hd⟩ : ∃ d, P = i + 1 + d := ⟨P - (i + 1), by omega⟩
        have := fb_sm_mono (tm n P f t' c l) (i + 1) d
        rw [← hd] at this
        exact this
      refine ⟨fb_sm (tm n P f t' c l) i + j, by rw [cnx_s, if_neg u]; omega, fun q => ?_⟩
      rw [pth_s u iP (Nat.le_add_right _ _) lt, List.mem_cons, show fb_sm (tm n P f t' c l) i + j - fb_sm (tm n P f t' c l) i = j by omega, ← j2]
      by_cases v : q = i
      · rw [v]; exact ⟨fun _ => Or.inl rfl, fun _ => i1⟩
      · rw [decide_eq_false v]
        simp [v]
/-- the places of each number cover the rest -/
theorem pth_cmp (hp : plh n P f) (hn : n ≤ 24) : ∀ (t c : Nat) (l : Nat → Nat) (j : Nat), c < 2 ^ n → n ≤ pop c + 3 * t → j < cnx n P f t c l → cmp n P f c l (fun i => decide (i ∈ pth n P f t c l j)) := by
  have full : ∀ t c l j, n ≤ tro c → cmp n P f c l (fun i => decide (i ∈ pth n P f t c l j)) := by
    intro t c l j u
    obtain ⟨o, o24, oe, o1, o2⟩ := tro_ex c
    rw [pth_0 u]
    refine ⟨fun i e => by simp at e, fun b hb h0 => ?_, fun i i' e => by simp at e, fun k => ?_⟩
    · rw [o1 b (by omega)] at h0; cases h0
    · have : fb_ct (fun i => decide (i ∈ ([] : List Nat)) && decide ((f i).2.1 = k)) P = 0 := fb_ct_zero.mpr (fun i _ => by simp)
      rw [this]; exact Nat.zero_le _
  intro t
  induction t with
  | zero =>
    intro c l j hc ht hj
    exact full 0 c l j (by have := pop_full hc hn (by omega); omega)
  | succ t' ih0 =>
    intro c l j hc ht hj
    by_cases u : n ≤ tro c
    · exact full _ c l j u
    · rw [cnx_s, if_neg u] at hj
      obtain ⟨i, i1, i2, i3⟩ := pidx_x hj
      rw [pth_s u i1 i2 i3]
      rw [fb_sm_succ] at i3
      have cond : (f i).1 = tro c ∧ c &&& (f i).2.2.1 = 0 ∧ l (f i).2.1 ≠ 0 := by
        refine Classical.byContradiction fun e => ?_
        have : tm n P f t' c l i = 0 := by unfold tm; rw [if_neg e]
        omega
      have te : tm n P f t' c l i = cnx n P f t' (c ||| (f i).2.2.1) (lsub l (f i).2.1 1) := by
        unfold tm
        rw [if_pos cond]
      have po := pop_or cond.2.1
      obtain ⟨p1, p2, p3, p4⟩ := hp i i1
      have ih := ih0 (c ||| (f i).2.2.1) (lsub l (f i).2.1 1) (j - fb_sm (tm n P f t' c l) i) (Nat.or_lt_two_pow hc p1) (by omega) (by omega)
      have := cmp_in i1 cond.2.1 cond.2.2 ih
      refine (?_ : (fun q => decide (q ∈ pth n P f t' (c ||| (f i).2.2.1) (lsub l (f i).2.1 1) (j - fb_sm (tm n P f t' c l) i)) || decide (q = i)) = fun q => decide (q ∈ i :: pth n P f t' (c ||| (f i).2.2.1) (lsub l (f i).2.1 1) (j - fb_sm (tm n P f t' c l) i))) ▸ this
      funext q
      by_cases v : q = i
      · simp [v]
      · simp [v]
/-- the places tell the number -/
theorem pth_inj (hp : plh n P f) (hn : n ≤ 24) : ∀ (t c : Nat) (l : Nat → Nat) (j j' : Nat), c < 2 ^ n → n ≤ pop c + 3 * t → j < cnx n P f t c l → j' < cnx n P f t c l → (∀ i, i ∈ pth n P f t c l j ↔ i ∈ pth n P f t c l j') → j = j' := by
  intro t
  induction t with
  | zero =>
    intro c l j j' hc ht hj hj' he
    have u : n ≤ tro c := by have := pop_full hc hn (by omega); omega
    rw [cnx_1 u 0] at hj hj'
    omega
  | succ t' ih =>
    intro c l j j' hc ht hj hj' he
    by_cases u : n ≤ tro c
    · rw [cnx_1 u (t' + 1)] at hj hj'
      omega
    · have c1 := pth_cmp hp hn (t' + 1) c l j hc ht hj
      rw [cnx_s, if_neg u] at hj hj'
      obtain ⟨i, i1, i2, i3⟩ := pidx_x hj
      obtain ⟨i', i1', i2', i3'⟩ := pidx_x hj'
      rw [pth_s u i1 i2 i3] at he c1
      rw [pth_s u i1' i2' i3'] at he
      rw [fb_sm_succ] at i3 i3'
      have cnd : ∀ i j, fb_sm (tm n P f t' c l) i ≤ j → j < fb_sm (tm n P f t' c l) i + tm n P f t' c l i → ((f i).1 = tro c ∧ c &&& (f i).2.2.1 = 0 ∧ l (f i).2.1 ≠ 0) ∧ tm n P f t' c l i = cnx n P f t' (c ||| (f i).2.2.1) (lsub l (f i).2.1 1) := fun i j a b => by
        by_cases e : (f i).1 = tro c ∧ c &&& (f i).2.2.1 = 0 ∧ l (f i).2.1 ≠ 0
        · refine ⟨e, ?_⟩
          unfold tm
          rw [if_pos e]
        · have : tm n P f t' c l i = 0 := by unfold tm; rw [if_neg e]
          omega
      obtain ⟨d1, e1⟩ := cnd i j i2 i3
      obtain ⟨d2, e2⟩ := cnd i' j' i2' i3'
      obtain ⟨p1, p2, p3, p4⟩ := hp i i1
      obtain ⟨q1, q2, q3, q4⟩ := hp i' i1'
      have ii : i = i' := by
        refine Classical.byContradiction fun ne => ?_
        have m1 : i' ∈ i :: pth n P f t' (c ||| (f i).2.2.1) (lsub l (f i).2.1 1) (j - fb_sm (tm n P f t' c l) i) := (he i').mpr (List.mem_cons_self ..)
        have := c1.2.2.1 i i' (decide_eq_true (List.mem_cons_self ..)) (decide_eq_true m1) ne
        rw [d1.1] at p2
        rw [d2.1] at q2
        exact and_0.mp this _ ⟨p2, q2⟩
      subst ii
      have po := pop_or d1.2.1
      have co := Nat.or_lt_two_pow hc p1
      have notin : ∀ j, j < cnx n P f t' (c ||| (f i).2.2.1) (lsub l (f i).2.1 1) → i ∉ pth n P f t' (c ||| (f i).2.2.1) (lsub l (f i).2.1 1) j := fun j hj m => by
        have := (pth_cmp hp hn t' _ _ j co (by omega) hj).1 i (decide_eq_true m)
        exact and_0.mp this.2 _ ⟨by rw [Nat.testBit_or, p2, Bool.or_true], p2⟩
      have := ih (c ||| (f i).2.2.1) (lsub l (f i).2.1 1) (j - fb_sm (tm n P f t' c l) i) (j' - fb_sm (tm n P f t' c l) i) co (by omega) (by omega) (by omega) (fun q => by
        have h := he q
        rw [List.mem_cons, List.mem_cons] at h
        by_cases v : q = i
        · rw [v]
          exact ⟨fun m => absurd m (notin _ (by omega)), fun m => absurd m (notin _ (by omega))⟩
        · exact ⟨fun m => (h.mp (Or.inr m)).resolve_left v, fun m => (h.mpr (Or.inr m)).resolve_left v⟩)
      omega
end CMS
