section FER
def isp (p : Nat) : Prop := 1 < p ∧ ∀ d, d ∣ p → d = 1 ∨ d = p
def td (p : Nat) : Nat → Nat → Bool
  | 0, s => !(p % s == 0)
  | k + 1, s => td p k s && td p k (s + 2 ^ k)
theorem td_s {p : Nat} : ∀ (k s : Nat), td p k s = true → ∀ d, s ≤ d → d < s + 2 ^ k → p % d ≠ 0
  | 0, s, h, d, h1, h2 => by
    have : d = s := by omega
    subst this
    unfold td at h
    intro e
    rw [e] at h
    exact absurd h (by decide)
  | k + 1, s, h, d, h1, h2 => by
    unfold td at h
    rw [Bool.and_eq_true] at h
    rw [Nat.pow_succ] at h2
    by_cases q : d < s + 2 ^ k
    · exact td_s k s h.1 d h1 q
    · exact td_s k (s + 2 ^ k) h.2 d (by omega) (by omega)
theorem td_p {p : Nat} (h1 : 1 < p) (h2 : p < 4294967296) (h : td p 16 2 = true) : isp p := by
  refine ⟨h1, fun d hd => ?_⟩
  have h := td_s 16 2 h
  refine Classical.byContradiction fun hn => ?_
  obtain ⟨e, he⟩ := hd
  have d0 : d ≠ 0 := fun q => by rw [q, Nat.zero_mul] at he; omega
  have e0 : e ≠ 0 := fun q => by rw [q, Nat.mul_zero] at he; omega
  have d1 : d ≠ 1 := fun q => hn (Or.inl q)
  have e1 : e ≠ 1 := fun q => hn (Or.inr (by rw [he, q, Nat.mul_one]))
  by_cases q : d < 65538
  · exact h d (by omega) (by omega) (by rw [he]; exact Nat.mul_mod_right d e)
  · by_cases q2 : e < 65538
    · exact h e (by omega) (by omega) (by rw [he]; exact Nat.mul_mod_left d e)
    · have := Nat.mul_le_mul (show 65538 ≤ d by omega) (show 65538 ≤ e by omega)
      omega
theorem isp_1 : isp 2147483647 := td_p (by decide) (by decide) (by decide +kernel)
theorem isp_2 : isp 2147483629 := td_p (by decide) (by decide) (by decide +kernel)
theorem isp_co {p k : Nat} (hp : isp p) (h0 : 0 < k) (hk : k < p) : Nat.Coprime p k := by
  rcases hp.2 _ (Nat.gcd_dvd_left p k) with q | q
  · exact q
  · have := Nat.le_of_dvd h0 (Nat.gcd_dvd_right p k)
    omega
def bnm : Nat → Nat → Nat
  | _, 0 => 1
  | 0, _ + 1 => 0
  | n + 1, k + 1 => bnm n k + bnm n (k + 1)
theorem bnm_0 (n : Nat) : bnm n 0 = 1 := by cases n <;> rfl
theorem bnm_s (n k : Nat) : bnm (n + 1) (k + 1) = bnm n k + bnm n (k + 1) := rfl
theorem bnm_big : ∀ {n k : Nat}, n < k → bnm n k = 0
  | 0, 0, h => absurd h (Nat.lt_irrefl _)
  | 0, k + 1, _ => rfl
  | n + 1, 0, h => absurd h (Nat.not_lt_zero _)
  | n + 1, k + 1, h => by rw [bnm_s, bnm_big (by omega), bnm_big (by omega)]
theorem bnm_n : ∀ n, bnm n n = 1
  | 0 => rfl
  | n + 1 => by rw [bnm_s, bnm_n n, bnm_big (by omega)]
theorem bnm_ab : ∀ n k, (k + 1) * bnm (n + 1) (k + 1) = (n + 1) * bnm n k
  | 0, 0 => rfl
  | 0, k + 1 => by
    rw [bnm_big (by omega), bnm_big (show 0 < k + 1 by omega), Nat.mul_zero, Nat.mul_zero]
  | n + 1, 0 => by
    have h := bnm_ab n 0
    rw [bnm_0] at h
    rw [bnm_s, bnm_0]
    omega
  | n + 1, k + 1 => by
    have h1 := bnm_ab n (k + 1)
    have h2 := bnm_ab n k
    rw [bnm_s (n + 1) (k + 1)]
    rw [Nat.mul_add, h1]
    rw [show (k + 1 + 1) * bnm (n + 1) (k + 1) = (k + 1) * bnm (n + 1) (k + 1) + bnm (n + 1) (k + 1) by rw [Nat.add_mul (k + 1) 1, Nat.one_mul], h2]
    rw [show (n + 1 + 1) * bnm (n + 1) (k + 1) = (n + 1) * bnm (n + 1) (k + 1) + bnm (n + 1) (k + 1) by rw [Nat.add_mul (n + 1) 1, Nat.one_mul], bnm_s n k, Nat.mul_add]
    omega
theorem sm_first (f : Nat → Nat) (n : Nat) : fb_sm f (n + 1) = f 0 + fb_sm (fun k => f (k + 1)) n := by
  have := fb_sm_split f 1 n
  rw [Nat.add_comm 1 n] at this
  rw [this]
  have e : fb_sm f 1 = f 0 := Nat.zero_add _
  rw [e]
  congr 1
  exact fb_sm_cong (fun k _ => by rw [Nat.add_comm])
theorem bnm_pow (a : Nat) : ∀ n, (a + 1) ^ n = fb_sm (fun k => bnm n k * a ^ k) (n + 1)
  | 0 => by
    show 1 = 0 + 1 * a ^ 0
    rw [Nat.pow_zero]
  | n + 1 => by
    rw [Nat.pow_succ, bnm_pow a n, Nat.mul_add, Nat.mul_one, sm_first (fun k => bnm (n + 1) k * a ^ k) (n + 1)]
    have e1 : fb_sm (fun k => bnm (n + 1) (k + 1) * a ^ (k + 1)) (n + 1) = fb_sm (fun k => bnm n k * a ^ k * a) (n + 1) + fb_sm (fun k => bnm n (k + 1) * a ^ (k + 1)) (n + 1) := by
      rw [← fb_sm_add]
      exact fb_sm_cong (fun k _ => by rw [bnm_s, Nat.add_mul, Nat.pow_succ, Nat.mul_assoc])
    rw [e1, sm_mulr]
    have e2 : fb_sm (fun k => bnm n k * a ^ k) (n + 1) = bnm n 0 * a ^ 0 + fb_sm (fun k => bnm n (k + 1) * a ^ (k + 1)) (n + 1) := by
      rw [fb_sm_succ (fun k => bnm n (k + 1) * a ^ (k + 1)) n, bnm_big (show n < n + 1 by omega), Nat.zero_mul, Nat.add_zero]
      exact sm_first _ n
    have e3 : bnm (n + 1) 0 * a ^ 0 = bnm n 0 * a ^ 0 := by rw [bnm_0, bnm_0]
    rw [e3]
    omega
theorem isp_bnm {p k : Nat} (hp : isp p) (h0 : 0 < k) (hk : k < p) : p ∣ bnm p k := by
  obtain ⟨k', rfl⟩ : ∃ k', k = k' + 1 := ⟨k - 1, by omega⟩
  obtain ⟨q, rfl⟩ : ∃ q, p = q + 1 := ⟨p - 1, by omega⟩
  have h := bnm_ab q k'
  exact Nat.Coprime.dvd_of_dvd_mul_left (isp_co hp h0 hk) ⟨_, h⟩
theorem fer_step {p : Nat} (hp : isp p) (a : Nat) : (a + 1) ^ p % p = (a ^ p + 1) % p := by
  have h1 := hp.1
  obtain ⟨q, hq⟩ : ∃ q, p = q + 1 := ⟨p - 1, by omega⟩
  have mid : ∀ n, n ≤ q → p ∣ fb_sm (fun k => bnm p (k + 1) * a ^ (k + 1)) n := by
    intro n
    induction n with
    | zero => intro _; exact ⟨0, rfl⟩
    | succ n ih =>
      intro hn
      rw [fb_sm_succ]
      exact Nat.dvd_add (ih (by omega)) (Nat.dvd_trans (isp_bnm hp (by omega) (by omega)) (Nat.dvd_mul_right _ _))
  have e : (a + 1) ^ p = a ^ p + 1 + fb_sm (fun k => bnm p (k + 1) * a ^ (k + 1)) q := by
    rw [bnm_pow a p, fb_sm_succ, bnm_n]
    rw [show fb_sm (fun k => bnm p k * a ^ k) p = fb_sm (fun k => bnm p k * a ^ k) (q + 1) by rw [← hq], sm_first, bnm_0, Nat.pow_zero]
    omega
  obtain ⟨t, ht⟩ := mid q (Nat.le_refl _)
  rw [e, ht, Nat.add_mul_mod_self_left]
theorem fer {p : Nat} (hp : isp p) : ∀ a, a ^ p % p = a % p
  | 0 => by
    have h1 := hp.1
    rw [Nat.zero_pow (by omega)]
  | a + 1 => by
    rw [fer_step hp a, Nat.add_mod, fer hp a, ← Nat.add_mod]
theorem inv_ok {p x : Nat} (hp : isp p) (h2 : 2 ≤ p) (h0 : 0 < x) (hx : x < p) : x * inv x p % p = 1 := by
  have h1 := hp.1
  have hf := fer hp x
  obtain ⟨q, hq⟩ : ∃ q, p = q + 2 := ⟨p - 2, by omega⟩
  have e : p ∣ x * (x ^ (q + 1) - 1) := by
    have g : x ≤ x ^ p := by
      have := Nat.pow_le_pow_right h0 (show 1 ≤ p by omega)
      rwa [Nat.pow_one] at this
    have : x * (x ^ (q + 1) - 1) = x ^ p - x := by
      rw [Nat.mul_sub, Nat.mul_one, hq, Nat.pow_succ x (q + 1), Nat.mul_comm x]
    rw [this]
    exact Nat.dvd_of_mod_eq_zero (Nat.sub_mod_eq_zero_of_mod_eq hf)
  have e2 := Nat.Coprime.dvd_of_dvd_mul_left (isp_co hp h0 hx) e
  have g1 : 1 ≤ x ^ (q + 1) := Nat.one_le_pow _ _ h0
  have e3 : x ^ (q + 1) % p = 1 := by
    obtain ⟨t, ht⟩ := e2
    rw [show x ^ (q + 1) = 1 + p * t by omega, Nat.add_mul_mod_self_left, Nat.mod_eq_of_lt h1]
  unfold inv
  rw [Nat.mul_mod, Nat.mod_mod, ← Nat.mul_mod, show p - 2 = q by omega, Nat.mul_comm, ← Nat.pow_succ]
  exact e3
end FER
