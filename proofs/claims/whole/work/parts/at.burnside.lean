/-! ===== unlike: counting by what is left as it is ===== -/
section BUR
theorem mm_l : ∀ a b : Fin 8, mmul (minv a.val) (mmul a.val b.val) = b.val ∧ mmul a.val (mmul (minv a.val) b.val) = b.val := by decide
theorem ct_mm (p : Nat → Bool) {a : Nat} (ha : a < 8) : fb_ct (fun b => p (mmul a b)) 8 = fb_ct p 8 := by
  refine Nat.le_antisymm ?_ ?_
  · exact cinj (N := 8) (P := fun b => p (mmul a b)) (R := p) (g := fun b => mmul a b) (fun b _ hb => ⟨mmul_lt, hb⟩) (fun b b' hb hb' _ _ e => by
      have e : mmul a b = mmul a b' := e
      have q1 : mmul (minv a) (mmul a b) = b := (mm_l ⟨a, ha⟩ ⟨b, hb⟩).1
      have q2 : mmul (minv a) (mmul a b') = b' := (mm_l ⟨a, ha⟩ ⟨b', hb'⟩).1
      rw [← q1, ← q2, e])
  · exact cinj (N := 8) (P := p) (R := fun b => p (mmul a b)) (g := fun b => mmul (minv a) b) (fun b hb hp => ⟨mmul_lt, by
      have := (mm_l ⟨a, ha⟩ ⟨b, hb⟩).2
      dsimp only at this ⊢
      rw [this]; exact hp⟩) (fun b b' hb hb' _ _ e => by
      have e : mmul (minv a) b = mmul (minv a) b' := e
      have q1 : mmul a (mmul (minv a) b) = b := (mm_l ⟨a, ha⟩ ⟨b, hb⟩).2
      have q2 : mmul a (mmul (minv a) b') = b' := (mm_l ⟨a, ha⟩ ⟨b', hb'⟩).2
      rw [← q1, ← q2, e])
theorem div_840 : ∀ v : Fin 9, v.val ≠ 0 → 840 / v.val * v.val = 840 := by decide
theorem sm_ct (p : Nat → Bool) (c : Nat) : ∀ n, fb_sm (fun j => if p j = true then c else 0) n = c * fb_ct p n
  | 0 => rfl
  | n + 1 => by
    rw [fb_sm_succ, fb_ct_succ, sm_ct p c n, Nat.mul_add]
    cases p n
    · rw [if_neg Bool.false_ne_true, if_neg Bool.false_ne_true, Nat.mul_zero]
    · rw [if_pos rfl, if_pos rfl, Nat.mul_one]
/-- each bunch of alike ones counts 840 -/
theorem burn {N : Nat} {V : Nat → Nat → Bool} {ac : Nat → Nat → Nat} {F : Nat → Bool} (Ft : ∀ j, j < N → (F j = true ↔ ∀ m, m < 8 → V j m = true → j ≤ ac m j)) (h0 : ∀ j, j < N → V j 0 = true ∧ ac 0 j = j) (h1 : ∀ j m, j < N → m < 8 → V j m = true → ac m j < N) (h2 : ∀ j a b, j < N → a < 8 → b < 8 → V j a = true → V (ac a j) b = V j (mmul a b)) (h3 : ∀ j a b, j < N → a < 8 → b < 8 → V j a = true → V (ac a j) b = true → ac b (ac a j) = ac (mmul a b) j) : fb_sm (fun j => 840 / fb_ct (V j) 8 * fb_ct (fun m => V j m && decide (ac m j = j)) 8) N = 840 * fb_ct F N := by
  have v8 : ∀ j, j < N → fb_ct (V j) 8 ≠ 0 ∧ fb_ct (V j) 8 < 9 := fun j hj => by
    have := (fb_ct_pos (p := V j) (n := 8)).mpr ⟨0, by omega, (h0 j hj).1⟩
    have l := fb_ct_le (V j) 8
    exact ⟨by omega, by omega⟩
  have inv : ∀ j a, j < N → a < 8 → V j a = true → V (ac a j) (minv a) = true ∧ ac (minv a) (ac a j) = j := fun j a hj ha hv => by
    obtain ⟨i1, i2, i3⟩ := minv_m ⟨a, ha⟩
    have e : V (ac a j) (minv a) = true := by rw [h2 j a _ hj ha i3 hv, i1]; exact (h0 j hj).1
    exact ⟨e, by rw [h3 j a _ hj ha i3 hv e, i1]; exact (h0 j hj).2⟩
  have szV : ∀ j a, j < N → a < 8 → V j a = true → fb_ct (V (ac a j)) 8 = fb_ct (V j) 8 := fun j a hj ha hv => by
    rw [← ct_mm (V j) ha]
    exact fb_ct_cong (fun b hb => h2 j a b hj ha hb hv)
  have szS : ∀ j a, j < N → a < 8 → V j a = true → fb_ct (fun m => V j m && decide (ac m j = ac a j)) 8 = fb_ct (fun m => V (ac a j) m && decide (ac m (ac a j) = ac a j)) 8 := fun j a hj ha hv => by
    rw [← ct_mm (fun m => V j m && decide (ac m j = ac a j)) ha]
    refine fb_ct_cong (fun b hb => ?_)
    rw [← h2 j a b hj ha hb hv]
    cases e : V (ac a j) b
    · rfl
    · rw [h3 j a b hj ha hb hv e]
  have rhs : 840 * fb_ct F N = fb_sm (fun q => fb_sm (fun j => if F q = true then 840 / fb_ct (V q) 8 * fb_ct (fun m => V q m && decide (ac m q = j)) 8 else 0) N) N := by
    rw [← sm_ct]
    refine fb_sm_cong (fun q hq => ?_)
    by_cases u : F q = true
    · rw [if_pos u]
      have e1 : fb_sm (fun j => if F q = true then 840 / fb_ct (V q) 8 * fb_ct (fun m => V q m && decide (ac m q = j)) 8 else 0) N = fb_sm (fun j => 840 / fb_ct (V q) 8 * fb_ct (fun m => V q m && decide (ac m q = j)) 8) N := fb_sm_cong (fun j _ => if_pos u)
      rw [e1, sm_mul]
      have e2 : fb_sm (fun j => fb_ct (fun m => V q m && decide (ac m q = j)) 8) N = fb_ct (V q) 8 := by
        have parts : ∀ n, n ≤ 8 → fb_sm (fun j => fb_ct (fun m => V q m && decide (ac m q = j)) n) N = fb_ct (V q) n := by
          intro n
          induction n with
          | zero => intro _; exact fb_sm_0 N
          | succ n ih =>
            intro hn
            have e : fb_sm (fun j => fb_ct (fun m => V q m && decide (ac m q = j)) (n + 1)) N = fb_sm (fun j => fb_ct (fun m => V q m && decide (ac m q = j)) n + (if ac n q = j then (if V q n = true then 1 else 0) else 0)) N := fb_sm_cong (fun j _ => by
              rw [fb_ct_succ]
              congr 1
              by_cases y : ac n q = j
              · rw [if_pos y, decide_eq_true y, Bool.and_true]
              · rw [if_neg y, decide_eq_false y, Bool.and_false, if_neg Bool.false_ne_true])
            rw [e, fb_sm_add, ih (by omega), fb_ct_succ]
            congr 1
            by_cases y : V q n = true
            · exact sm_one (f := fun _ => (if V q n = true then 1 else 0)) (h1 q n hq (by omega) y)
            · have : fb_sm (fun j => if ac n q = j then (if V q n = true then 1 else 0) else 0) N = fb_sm (fun _ => 0) N := fb_sm_cong (fun j _ => by rw [if_neg y]; split <;> rfl)
              rw [this, fb_sm_0, if_neg y]
        exact parts 8 (Nat.le_refl _)
      rw [e2]
      exact (div_840 ⟨_, (v8 q hq).2⟩ (v8 q hq).1).symm
    · rw [if_neg u]
      have : fb_sm (fun j => if F q = true then 840 / fb_ct (V q) 8 * fb_ct (fun m => V q m && decide (ac m q = j)) 8 else 0) N = fb_sm (fun _ => 0) N := fb_sm_cong (fun j _ => if_neg u)
      rw [this, fb_sm_0]
  rw [rhs, sm_swp2]
  refine fb_sm_cong (fun j hj => ?_)
  -- the first one of those alike
  obtain ⟨b, b8, hb, hmin⟩ : ∃ b, b < 8 ∧ V j b = true ∧ ∀ m, m < 8 → V j m = true → ac b j ≤ ac m j := by
    obtain ⟨x, ⟨b, b8, hb, e⟩, hm⟩ := pk_least (fun x => ∃ b, b < 8 ∧ V j b = true ∧ ac b j = x) ⟨ac 0 j, 0, by omega, (h0 j hj).1, rfl⟩
    exact ⟨b, b8, hb, fun m m8 hv => Nat.le_of_not_lt fun u => hm (ac m j) (by omega) ⟨m, m8, hv, rfl⟩⟩
  obtain ⟨R, hR⟩ : ∃ R, R = ac b j := ⟨_, rfl⟩
  have RN : R < N := by rw [hR]; exact h1 j b hj b8 hb
  obtain ⟨iv, ie⟩ := inv j b hj b8 hb
  rw [← hR] at iv ie
  have i8 := (minv_m ⟨b, b8⟩).2.2
  have FR : F R = true := (Ft R RN).mpr (fun m m8 hv => by
    rw [hR] at hv ⊢
    have e := h2 j b m hj b8 m8 hb
    rw [h3 j b m hj b8 m8 hb hv]
    exact hmin _ mmul_lt (by rw [← e]; exact hv))
  have only : ∀ q, q < N → q ≠ R → (if F q = true then 840 / fb_ct (V q) 8 * fb_ct (fun m => V q m && decide (ac m q = j)) 8 else 0) = 0 := fun q hq hne => by
    by_cases u : F q = true
    · rw [if_pos u]
      have z : fb_ct (fun m => V q m && decide (ac m q = j)) 8 = 0 := fb_ct_zero.mpr (fun m m8 => by
        cases y : V q m
        · rfl
        · rw [Bool.true_and]
          refine decide_eq_false fun e => hne ?_
          obtain ⟨jv, je⟩ := inv q m hq m8 y
          rw [e] at jv je
          have im := (minv_m ⟨m, m8⟩).2.2
          have l1 := hmin _ im jv
          rw [je, ← hR] at l1
          have vq : V q (mmul m b) = true := by rw [← h2 q m b hq m8 b8 y, e]; exact hb
          have l2 := (Ft q hq).mp u _ mmul_lt vq
          have ee := h3 q m b hq m8 b8 y (by rw [e]; exact hb)
          rw [e, ← hR] at ee
          omega)
      rw [z, Nat.mul_zero]
    · rw [if_neg u]
  have one : fb_sm (fun q => if F q = true then 840 / fb_ct (V q) 8 * fb_ct (fun m => V q m && decide (ac m q = j)) 8 else 0) N = (if F R = true then 840 / fb_ct (V R) 8 * fb_ct (fun m => V R m && decide (ac m R = j)) 8 else 0) := by
    rw [← sm_one (f := fun q => (if F q = true then 840 / fb_ct (V q) 8 * fb_ct (fun m => V q m && decide (ac m q = j)) 8 else 0)) RN]
    refine fb_sm_cong (fun q hq => ?_)
    by_cases y : R = q
    · rw [if_pos y]
    · rw [if_neg y]; exact only q hq (fun e => y e.symm)
  rw [one, if_pos FR]
  have s1 := szV R _ RN i8 iv
  have s2 := szS R _ RN i8 iv
  rw [ie] at s1 s2
  rw [s1, s2]
end BUR
