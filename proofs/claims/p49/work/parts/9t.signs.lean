section KSG
variable {w h : Nat} {S : Nat → Bool}
theorem dt_xch {n i1 i2 : Nat} {A B : Nat → Nat → Int} {t1 t2 : Int} (h1 : i1 < n) (h2 : i2 < n) (hne : i1 ≠ i2) (ht : t1 * t2 = -1) (ho : ∀ r c, r < n → c < n → r ≠ i1 → r ≠ i2 → B r c = A r c) (ha : ∀ c, c < n → B i1 c = t1 * A i2 c) (hb : ∀ c, c < n → B i2 c = t2 * A i1 c) : dt n B = dt n A := by
  have sw1 : dt n (fun r c => A (tsp i1 i2 r) c) = - dt n A := by
    rcases Nat.lt_or_gt_of_ne hne with q | q
    · exact dt_sw q h2
    · have := dt_sw (A := A) q h1
      rw [← this]
      refine dt_c n (fun r c _ _ => ?_)
      have : tsp i1 i2 r = tsp i2 i1 r := by
        unfold tsp
        repeat' split
        all_goals omega
      rw [this]
  have e1 := dt_row (n := n) (k := i2) (A := fun r c => if r = i2 then t2 * A (tsp i1 i2 r) c else A (tsp i1 i2 r) c) (B := fun r c => A (tsp i1 i2 r) c) t2 h2 (fun r c _ _ => rfl)
  have e2 := dt_row (n := n) (k := i1) (A := B) (B := fun r c => if r = i2 then t2 * A (tsp i1 i2 r) c else A (tsp i1 i2 r) c) t1 h1 (fun r c hr hc => by
    by_cases q : r = i1
    · rw [if_pos q, if_neg (by omega), q, ha c hc]
      unfold tsp
      rw [if_pos rfl]
    · rw [if_neg q]
      by_cases q2 : r = i2
      · rw [if_pos q2, q2, hb c hc]
        unfold tsp
        rw [if_neg (fun e => hne e.symm), if_pos rfl]
      · rw [if_neg q2, ho r c hr hc q q2]
        unfold tsp
        rw [if_neg q, if_neg q2])
  rw [e2, e1, sw1, ← Int.mul_assoc, ht]
  omega
theorem kp_xch {n d1 d2 l1 l2 : Nat} {D L p p' : Nat → Nat} {t1 t2 : Int} (he : en n D L S) (hp : pc w false S p) (s1 : S d1 = true) (s2 : S d2 = true) (k1 : dk d1 = true) (k2 : dk d2 = true) (hne : d1 ≠ d2) (hl1 : S l1 = true) (hl2 : S l2 = true) (a1 : p l1 = d2) (a2 : p l2 = d1) (b1 : p' l1 = d1) (b2 : p' l2 = d2) (ho : ∀ j, S j = true → j ≠ l1 → j ≠ l2 → dk j = false → p' j = p j) (z1 : kz w d1 l1 = 1) (z2 : kz w d2 l2 = 1) (z3 : kz w d2 l1 = t1) (z4 : kz w d1 l2 = t2) (q1 : t1 * t1 = 1) (q2 : t2 * t2 = 1) (ht : t1 * t2 = -1) : dt n (kp w D L p') = dt n (kp w D L p) := by
  obtain ⟨h1, h2, h3, h4, h5, h6⟩ := he
  have dark : ∀ c, S c = true → dk c = true → ∃ i, i < n ∧ c = D i := fun c hc hk => by
    rcases (h1 c).mp hc with u | ⟨j, hj, e⟩
    · exact u
    · rw [e, h5 j hj] at hk; cases hk
  obtain ⟨i1, i1n, e1⟩ := dark d1 s1 k1
  obtain ⟨i2, i2n, e2⟩ := dark d2 s2 k2
  have hi : i1 ≠ i2 := fun e => hne (by rw [e1, e2, e])
  have pd1 : p d1 = l2 := by rw [← a2]; exact (hp _ hl2).2.1
  have pd2 : p d2 = l1 := by rw [← a1]; exact (hp _ hl1).2.1
  have hll : l1 ≠ l2 := fun e => hne (by rw [← a1, ← a2, e])
  have LS : ∀ c, c < n → S (L c) = true := fun c hc => (h1 _).mpr (Or.inr ⟨c, hc, rfl⟩)
  have oth : ∀ c, c < n → L c ≠ l1 → L c ≠ l2 → p' (L c) = p (L c) ∧ p (L c) ≠ d1 ∧ p (L c) ≠ d2 := fun c hc n1 n2 => by
    refine ⟨ho _ (LS c hc) n1 n2 (h5 c hc), fun e => ?_, fun e => ?_⟩
    · have := (hp _ (LS c hc)).2.1
      rw [e, pd1] at this
      exact n2 this.symm
    · have := (hp _ (LS c hc)).2.1
      rw [e, pd2] at this
      exact n1 this.symm
  refine dt_xch (i1 := i1) (i2 := i2) (t1 := t1) (t2 := t2) i1n i2n hi ht (fun r c hr hc n1 n2 => ?_) (fun c hc => ?_) (fun c hc => ?_)
  · have r1 : D r ≠ d1 := fun e => n1 (h2 r i1 hr i1n (by rw [e, e1]))
    have r2 : D r ≠ d2 := fun e => n2 (h2 r i2 hr i2n (by rw [e, e2]))
    unfold kp
    by_cases c1 : L c = l1
    · rw [c1, b1, a1, if_neg r1, if_neg r2]
    · by_cases c2 : L c = l2
      · rw [c2, b2, a2, if_neg r1, if_neg r2]
      · rw [(oth c hc c1 c2).1]
  · unfold kp
    rw [← e1, ← e2]
    by_cases c1 : L c = l1
    · rw [c1, b1, a1, if_pos rfl, if_pos rfl, z1, z3, q1]
    · by_cases c2 : L c = l2
      · rw [c2, b2, a2, if_neg hne, if_neg (fun e => hne e.symm), Int.mul_zero]
      · obtain ⟨o1, o2, o3⟩ := oth c hc c1 c2
        rw [o1, if_neg (fun e => o2 e.symm), if_neg (fun e => o3 e.symm), Int.mul_zero]
  · unfold kp
    rw [← e1, ← e2]
    by_cases c1 : L c = l1
    · rw [c1, b1, a1, if_neg (fun e => hne e.symm), if_neg hne, Int.mul_zero]
    · by_cases c2 : L c = l2
      · rw [c2, b2, a2, if_pos rfl, if_pos rfl, z2, z4, q2]
      · obtain ⟨o1, o2, o3⟩ := oth c hc c1 c2
        rw [o1, if_neg (fun e => o3 e.symm), if_neg (fun e => o2 e.symm), Int.mul_zero]
def uz (a : Nat) : Int := if a % 2 = 0 then 1 else -1
theorem uz_1 (a : Nat) : uz a * uz a = 1 := by
  unfold uz
  split <;> rfl
theorem uz_m {a b : Nat} (h : (a + b) % 2 = 1) : uz a * uz b = -1 := by
  unfold uz
  by_cases q : a % 2 = 0
  · rw [if_pos q, if_neg (by omega)]; rfl
  · rw [if_neg q, if_pos (by omega)]; rfl
theorem kz_r {a : Nat} (h : a % 8 + 1 < w) : kz w a (a + 1) = 1 ∧ kz w (a + 1) a = 1 := by
  unfold kz
  rw [if_pos (nb_right h), if_pos (nb_a1 h), if_neg (by omega), if_neg (by omega)]
  exact ⟨rfl, rfl⟩
theorem kz_d (a : Nat) : kz w a (a + 8) = uz a ∧ kz w (a + 8) a = uz (a + 8) := by
  unfold kz uz
  rw [if_pos nb_down, if_pos (nb_s nb_down), if_pos (Or.inl rfl), if_pos (Or.inr rfl)]
  exact ⟨rfl, rfl⟩
theorem kp_fl {n : Nat} {D L : Nat → Nat} (hd : jd w h false S) (he : en n D L S) : nofl w S (fun p => dt n (kp w D L p)) := by
  refine ⟨fun p q hp e => ?_, fun p a hp S0 S1 S8 S9 ha e1 e2 => ?_⟩
  · refine dt_c n (fun r c hr hc => ?_)
    unfold kp
    rw [e _ ((he.1 _).mpr (Or.inr ⟨c, hc, rfl⟩))]
  · have e3 : p (a + 8) = a := by rw [← e1]; exact (hp a S0).2.1
    have e4 : p (a + 9) = a + 1 := by rw [← e2]; exact (hp _ S1).2.1
    have f0 : fH a p a = a + 1 := if_pos rfl
    have f1 : fH a p (a + 1) = a := by unfold fH; rw [if_neg (by omega), if_pos rfl]
    have f8 : fH a p (a + 8) = a + 9 := by unfold fH; rw [if_neg (by omega), if_neg (by omega), if_pos rfl]
    have f9 : fH a p (a + 9) = a + 8 := by unfold fH; rw [if_neg (by omega), if_neg (by omega), if_neg (by omega), if_pos rfl]
    have fo : ∀ j, j ≠ a → j ≠ a + 1 → j ≠ a + 8 → j ≠ a + 9 → fH a p j = p j := fun j h1 h2 h3 h4 => by unfold fH; rw [if_neg h1, if_neg h2, if_neg h3, if_neg h4]
    have w8 := hd.2.1
    have a1 : dk (a + 1) = !dk a := nb_par w8 (nb_right ha)
    have a8 : dk (a + 8) = !dk a := nb_par w8 nb_down
    have a9 : dk (a + 9) = dk a := by
      have := nb_par (a := a + 1) (b := a + 9) w8 nb_down
      rw [this, a1, Bool.not_not]
    have r8 := kz_r (w := w) (a := a + 8) (by omega)
    have d1 := kz_d (w := w) (a + 1)
    cases k0 : dk a
    · rw [k0] at a1 a8 a9
      refine kp_xch (d1 := a + 1) (d2 := a + 8) (l1 := a) (l2 := a + 9) (t1 := uz (a + 8)) (t2 := uz (a + 1)) he hp S1 S8 a1 a8 (by omega) S0 S9 e1 e4 f0 f9 (fun j _ h1 h2 hk => ?_) (kz_r ha).2 r8.1 (kz_d a).2 d1.1 (uz_1 _) (uz_1 _) (uz_m (by omega))
      refine fo j h1 (fun e => ?_) (fun e => ?_) h2
      · rw [e, a1] at hk; cases hk
      · rw [e, a8] at hk; cases hk
    · rw [k0] at a1 a8 a9
      refine kp_xch (d1 := a) (d2 := a + 9) (l1 := a + 1) (l2 := a + 8) (t1 := uz (a + 9)) (t2 := uz a) he hp S0 S9 k0 a9 (by omega) S1 S8 e2 e3 f1 f8 (fun j _ h1 h2 hk => ?_) (kz_r ha).1 r8.2 d1.2 (kz_d a).1 (uz_1 _) (uz_1 _) (uz_m (by omega))
      refine fo j (fun e => ?_) h1 h2 (fun e => ?_)
      · rw [e, k0] at hk; cases hk
      · rw [e, a9] at hk; cases hk
theorem kp_1 : ∀ (n : Nat) {D L : Nat → Nat} {S : Nat → Bool} {p : Nat → Nat}, en n D L S → pc w false S p → w ≤ 8 → (dt n (kp w D L p) = 1 ∨ dt n (kp w D L p) = -1)
  | 0, D, L, S, p, _, _, _ => Or.inl rfl
  | n + 1, D, L, S, p, he, hp, bw => by
    have he0 := he
    obtain ⟨h1, h2, h3, h4, h5, h6⟩ := he
    have hc : S (L 0) = true := (h1 _).mpr (Or.inr ⟨0, by omega, rfl⟩)
    obtain ⟨u1, u2, u3⟩ := hp _ hc
    obtain ⟨i, hi, e⟩ : ∃ i, i < n + 1 ∧ p (L 0) = D i := by
      rcases (h1 _).mp u1 with u | ⟨j, hj, e⟩
      · exact u
      · have := nb_par bw u3
        rw [e, h5 j hj, h5 0 (by omega)] at this
        exact absurd this (by decide)
    have ih := kp_1 n (en_rm he0 hi) (pc_rm hp hc e) bw
    have d := dt_one (n := n) (k := i) (A := kp w D L p) hi (fun r hr hne => by
      unfold kp
      rw [e, if_neg (fun e => hne (h2 r i hr hi e))])
    have k0 : kp w D L p i 0 = kz w (D i) (L 0) := by unfold kp; rw [e, if_pos rfl]
    have km : dt n (fun r c => kp w D L p (upp i r) (c + 1)) = dt n (kp w (fun r => D (upp i r)) (fun c => L (c + 1)) p) := rfl
    rw [d, k0, km]
    have n1 : nb w false (D i) (L 0) = true := by rw [← e]; exact nb_s u3
    rcases sg1_1 i with a | a <;> rcases kz_1 n1 with b | b <;> rcases ih with c | c <;> rw [a, b, c] <;> decide
/-- the determinant of the signs of a plain board -/
theorem det_T {n : Nat} {D L : Nat → Nat} (hd : jd w h false S) (hg : gr_n w false (mi w h S) (rim w h false) = 0) (he : en n D L S) : dt n (fun i j => kz w (D i) (L j)) = (cv_T w false 0 S : Int) ∨ dt n (fun i j => kz w (D i) (L j)) = -(cv_T w false 0 S : Int) := by
  have w8 := hd.2.1
  by_cases ex : ∃ p, pc w false S p
  · obtain ⟨p0, hp0⟩ := ex
    obtain ⟨G, hG⟩ := fam_ex hd hg
    have e := kas w8 n (ε := dt n (kp w D L p0)) he (fun p hp => fl_all hd hg hG (kp_fl hd he) _ p p0 (Nat.le_refl _) hp hp0)
    rcases kp_1 n he hp0 w8 with u | u
    · rw [u, Int.one_mul] at e
      exact Or.inl e
    · rw [u] at e
      exact Or.inr (by rw [e]; omega)
  · have e := kas w8 n (ε := 1) he (fun p hp => absurd ⟨p, hp⟩ ex)
    rw [Int.one_mul] at e
    exact Or.inl e
end KSG
