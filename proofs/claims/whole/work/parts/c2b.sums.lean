/-! ===== the number of exact covers: places by their shapes, sums by their sizes ===== -/
section CCP
variable {w h : Nat} {r : Bool} {S : Nat → Bool} {z : tq_S} {K P : Nat} {C Z : Nat → Nat} {A : Nat → Int64} {f : Nat → plc}
theorem ccap (hd : jd w h r S) (kf : kfam K C A) (hp : prs w h r S K C A P f z) (c : Nat) (G : Nat → Bool) (L : Nat → Int64) (len : Nat) (hL : ∀ k, k < K → G k = true → ∀ i, i < C k → ∃ q, q < len ∧ A (8 * k + i) = L q) : fb_ct (fun p => decide ((f p).1 = c) && G (f p).2.1) P ≤ fb_ct (fun j => ct (L (j / 6)) (j % 6)) (6 * len) := by
  have ch : ∀ p, ∃ j, p < P → (f p).1 = c → G (f p).2.1 = true → j < 6 * len ∧ ct (L (j / 6)) (j % 6) = true ∧ ∃ i, i < C (f p).2.1 ∧ A (8 * (f p).2.1 + i) = L (j / 6) ∧ cvF w r S (L (j / 6)) (kth S c % 8) (kth S c / 8) (j % 6) c 36 = some (f p).2.2.1 := fun p => by
    by_cases q : p < P ∧ (f p).1 = c ∧ G (f p).2.1 = true
    · obtain ⟨q1, q2, q3⟩ := q
      obtain ⟨xK, xn, i, part, hi, hpt, hb, e, -⟩ := hp.2 p q1
      obtain ⟨q, hq, eq⟩ := hL _ xK q3 i hi
      have d1 : (6 * q + part) / 6 = q := by omega
      have d2 : (6 * q + part) % 6 = part := by omega
      refine ⟨6 * q + part, fun _ _ _ => ⟨by omega, ?_, i, hi, ?_, ?_⟩⟩
      · rw [d1, d2, ← eq]; exact hb
      · rw [d1]; exact eq
      · rw [d1, d2, ← eq, ← q2]; exact e
    · exact ⟨0, fun a b c => absurd ⟨a, b, c⟩ q⟩
  refine cinj (g := fun p => Classical.choose (ch p)) (fun p hpP hG => ?_) (fun p p' hpP hpP' hG hG' e => ?_)
  · simp only [Bool.and_eq_true, decide_eq_true_eq] at hG
    obtain ⟨a, b, -⟩ := Classical.choose_spec (ch p) hpP hG.1 hG.2
    exact ⟨a, b⟩
  · simp only [Bool.and_eq_true, decide_eq_true_eq] at hG hG'
    obtain ⟨-, -, i, a1, a2, a3⟩ := Classical.choose_spec (ch p) hpP hG.1 hG.2
    obtain ⟨-, -, i', b1, b2, b3⟩ := Classical.choose_spec (ch p') hpP' hG'.1 hG'.2
    have e : Classical.choose (ch p) = Classical.choose (ch p') := e
    rw [e] at a2 a3
    have same := kf.2 _ _ i i' (hp.2 p hpP).1 (hp.2 p' hpP').1 a1 b1 (a2.trans b2.symm)
    refine prs_ne hd hp p p' hpP hpP' same.1 ?_
    rw [a3] at b3
    exact Option.some.inj b3
/-- how many kinds have a size -/
def ksz (Z : Nat → Nat) (K s : Nat) : Nat := fb_ct (fun k => decide (Z k = s)) K
/-- how many places of a size begin at a cell -/
def psz (f : Nat → plc) (Z : Nat → Nat) (P c s : Nat) : Nat := fb_ct (fun p => decide ((f p).1 = c) && decide (Z (f p).2.1 = s)) P
theorem psz_s (hK : ∀ p, p < P → (f p).2.1 < K) (c s : Nat) : fb_sm (fun k => if Z k = s then fb_ct (fun p => decide ((f p).1 = c) && decide ((f p).2.1 = k)) P else 0) K = psz f Z P c s := by
  have e1 : ∀ X : Nat → Bool, fb_ct X P = fb_sm (fun p => if X p = true then 1 else 0) P := fun X => by rw [sm_ct, Nat.one_mul]
  have e2 : fb_sm (fun k => if Z k = s then fb_ct (fun p => decide ((f p).1 = c) && decide ((f p).2.1 = k)) P else 0) K = fb_sm (fun k => fb_sm (fun p => if (f p).2.1 = k then (if (f p).1 = c ∧ Z k = s then 1 else 0) else 0) P) K := fb_sm_cong (fun k _ => by
    by_cases q : Z k = s
    · rw [if_pos q, e1]
      refine fb_sm_cong (fun p _ => ?_)
      by_cases q1 : (f p).1 = c <;> by_cases q2 : (f p).2.1 = k <;> simp [q, q1, q2]
    · rw [if_neg q]
      refine (fb_sm_0 P).symm.trans (fb_sm_cong (fun p _ => ?_))
      simp [q])
  unfold psz
  rw [e2, e1, sm_swp2 (fun k p => if (f p).2.1 = k then (if (f p).1 = c ∧ Z k = s then 1 else 0) else 0) P K]
  refine fb_sm_cong (fun p hp => ?_)
  rw [sm_one (f := fun k => if (f p).1 = c ∧ Z k = s then 1 else 0) (hK p hp)]
  by_cases q1 : (f p).1 = c <;> by_cases q2 : Z (f p).2.1 = s <;> simp [q1, q2]
/-- one size's part of a sum -/
def wtp (U : Nat → Nat) (m s T k : Nat) : Nat := if s < m then U (m - s) * T else if s = m then k else 0
theorem sz_sum {U : Nat → Nat} (hK : ∀ p, p < P → (f p).2.1 < K) (hZ : ∀ k, k < K → 3 ≤ Z k ∧ Z k ≤ 6) (c m : Nat) : fb_sm (fun k => if Z k < m then U (m - Z k) * fb_ct (fun p => decide ((f p).1 = c) && decide ((f p).2.1 = k)) P else if Z k = m then 1 else 0) K = wtp U m 3 (psz f Z P c 3) (ksz Z K 3) + wtp U m 4 (psz f Z P c 4) (ksz Z K 4) + (wtp U m 5 (psz f Z P c 5) (ksz Z K 5) + wtp U m 6 (psz f Z P c 6) (ksz Z K 6)) := by
  have one : ∀ s, fb_sm (fun k => if Z k = s then (if s < m then U (m - s) * fb_ct (fun p => decide ((f p).1 = c) && decide ((f p).2.1 = k)) P else if s = m then 1 else 0) else 0) K = wtp U m s (psz f Z P c s) (ksz Z K s) := fun s => by
    unfold wtp
    by_cases q : s < m
    · rw [if_pos q, ← psz_s hK, ← sm_mul]
      refine fb_sm_cong (fun k _ => ?_)
      by_cases q2 : Z k = s
      · rw [if_pos q2, if_pos q2, if_pos q]
      · rw [if_neg q2, if_neg q2, Nat.mul_zero]
    · rw [if_neg q]
      by_cases q3 : s = m
      · refine Eq.trans ?_ (if_pos q3 : (if s = m then ksz Z K s else 0) = ksz Z K s).symm
        unfold ksz
        have := sm_ct (fun k => decide (Z k = s)) 1 K
        rw [Nat.one_mul] at this
        rw [← this]
        refine fb_sm_cong (fun k _ => ?_)
        by_cases q2 : Z k = s
        · rw [if_pos q2, if_neg q, if_pos q3, if_pos (decide_eq_true q2)]
        · rw [if_neg q2, if_neg (by rw [decide_eq_false q2]; decide)]
      · refine Eq.trans ?_ (if_neg q3 : (if s = m then ksz Z K s else 0) = 0).symm
        refine Eq.trans (fb_sm_cong (fun k _ => ?_)) (fb_sm_0 K)
        rw [if_neg q, if_neg q3, ite_self]
  rw [← one 3, ← one 4, ← one 5, ← one 6, ← fb_sm_add, ← fb_sm_add, ← fb_sm_add]
  refine fb_sm_cong (fun k hk => ?_)
  have hz := hZ k hk
  have c4 : Z k = 3 ∨ Z k = 4 ∨ Z k = 5 ∨ Z k = 6 := by omega
  rcases c4 with e | e | e | e <;> rw [e] <;> simp
theorem ksz_6 (hZ : ∀ k, k < K → 3 ≤ Z k ∧ Z k ≤ 6) : ksz Z K 3 + ksz Z K 4 + (ksz Z K 5 + ksz Z K 6) = K := by
  unfold ksz
  rw [← fb_ct_or (fun k _ h => by simp only [decide_eq_true_eq] at h; omega), ← fb_ct_or (fun k _ h => by simp only [decide_eq_true_eq] at h; omega), ← fb_ct_or (fun k _ h => by simp only [Bool.or_eq_true, decide_eq_true_eq] at h; omega)]
  refine fb_ct_all.mpr (fun k hk => ?_)
  have := hZ k hk
  simp only [Bool.or_eq_true, decide_eq_true_eq]
  omega
end CCP
/-- the bounds, as they are reckoned -/
def tbt (k3 k4 k5 k6 m : Nat) (l : List Nat) : Nat := wtp (fun d => l.getD (m - 1 - d) 0) m 3 ([0, 6, 10].getD k3 10) k3 + wtp (fun d => l.getD (m - 1 - d) 0) m 4 ([0, 14, 20, 26, 31].getD k4 33) k4 + (wtp (fun d => l.getD (m - 1 - d) 0) m 5 (20 * k5) k5 + wtp (fun d => l.getD (m - 1 - d) 0) m 6 (24 * k6) k6)
def tbl (k3 k4 k5 k6 : Nat) : Nat → List Nat
  | 0 => [1]
  | m + 1 => tbt k3 k4 k5 k6 (m + 1) (tbl k3 k4 k5 k6 m) :: tbl k3 k4 k5 k6 m
def tbU (k3 k4 k5 k6 m : Nat) : Nat := (tbl k3 k4 k5 k6 m).getD 0 0
theorem tbl_g (k3 k4 k5 k6 : Nat) : ∀ m d, d ≤ m → (tbl k3 k4 k5 k6 m).getD (m - d) 0 = tbU k3 k4 k5 k6 d
  | 0, d, h => by
    have : d = 0 := by omega
    subst this
    rfl
  | m + 1, d, h => by
    by_cases q : d = m + 1
    · rw [q, Nat.sub_self]; rfl
    · rw [show m + 1 - d = (m - d) + 1 by omega]
      exact tbl_g k3 k4 k5 k6 m d (by omega)
theorem tbU_s (k3 k4 k5 k6 m : Nat) : tbU k3 k4 k5 k6 (m + 1) = wtp (tbU k3 k4 k5 k6) (m + 1) 3 ([0, 6, 10].getD k3 10) k3 + wtp (tbU k3 k4 k5 k6) (m + 1) 4 ([0, 14, 20, 26, 31].getD k4 33) k4 + (wtp (tbU k3 k4 k5 k6) (m + 1) 5 (20 * k5) k5 + wtp (tbU k3 k4 k5 k6) (m + 1) 6 (24 * k6) k6) := by
  have w : ∀ s T k, 0 < s → wtp (fun d => (tbl k3 k4 k5 k6 m).getD (m + 1 - 1 - d) 0) (m + 1) s T k = wtp (tbU k3 k4 k5 k6) (m + 1) s T k := fun s T k hs => by
    unfold wtp
    by_cases q : s < m + 1
    · rw [if_pos q, if_pos q]
      show (tbl k3 k4 k5 k6 m).getD (m + 1 - 1 - (m + 1 - s)) 0 * T = _
      rw [Nat.add_sub_cancel, tbl_g k3 k4 k5 k6 m _ (by omega)]
    · rw [if_neg q, if_neg q]
  show tbt k3 k4 k5 k6 (m + 1) (tbl k3 k4 k5 k6 m) = _
  unfold tbt
  rw [w 3 _ _ (by decide), w 4 _ _ (by decide), w 5 _ _ (by decide), w 6 _ _ (by decide)]
def tbc : Bool := (List.range 7).all (fun k3 => (List.range (7 - k3)).all (fun k4 => (List.range (7 - k3 - k4)).all (fun k5 => (List.range (7 - k3 - k4 - k5)).all (fun k6 => (tbl k3 k4 k5 k6 24).all (fun x => decide (x < 2147483648))))))
