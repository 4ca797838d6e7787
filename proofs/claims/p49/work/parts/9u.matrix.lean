section MSG
variable {w h : Nat} {r : Bool} {S : Nat → Bool} {z : tq_S} {Q : tq_O → tq_S → Prop}
def DKs (S : Nat → Bool) (j : Nat) : Bool := S j && dk j
def LTs (S : Nat → Bool) (j : Nat) : Bool := S j && !dk j
/-- the k-th that p holds for -/
noncomputable def kth (p : Nat → Bool) (k : Nat) : Nat := @dite _ (∃ i, i < 64 ∧ p i = true ∧ fb_ct p i = k) (Classical.propDecidable _) (fun h => Classical.choose h) (fun _ => 0)
theorem kth_ok {p : Nat → Bool} {k : Nat} (hk : k < fb_ct p 64) : kth p k < 64 ∧ p (kth p k) = true ∧ fb_ct p (kth p k) = k := by
  obtain ⟨i, h1, h2, h3⟩ := fb_ct_kth hk
  have ex : ∃ i, i < 64 ∧ p i = true ∧ fb_ct p i = k := ⟨i, h1, h2, h3⟩
  unfold kth
  rw [dif_pos ex]
  exact Classical.choose_spec ex
theorem ct_in {p : Nat → Bool} {i n : Nat} (hi : i < n) (hp : p i = true) : fb_ct p i < fb_ct p n := by
  have a := fb_ct_succ p i
  rw [hp] at a
  have b := fb_ct_mono p (show i + 1 ≤ n by omega)
  have e : (if true = true then 1 else 0 : Nat) = 1 := rfl
  omega
theorem kth_of {p : Nat → Bool} {i : Nat} (hi : i < 64) (hp : p i = true) : kth p (fb_ct p i) = i := by
  obtain ⟨h1, h2, h3⟩ := kth_ok (ct_in hi hp)
  exact fb_ct_kth_one h2 hp h3
theorem ct_cut {p : Nat → Bool} {k : Nat} (hk : k ≤ 64) : fb_ct (fun j => p j && decide (j < k)) 64 = fb_ct p k := by
  obtain ⟨d, hd⟩ : ∃ d, 64 = k + d := ⟨64 - k, by omega⟩
  rw [hd, fb_ct_split]
  have e1 : fb_ct (fun j => p j && decide (j < k)) k = fb_ct p k := fb_ct_cong (fun j hj => by rw [decide_eq_true hj, Bool.and_true])
  have e2 : fb_ct (fun j => p (k + j) && decide (k + j < k)) d = 0 := fb_ct_zero.mpr (fun j _ => by rw [decide_eq_false (by omega), Bool.and_false])
  rw [e1, e2]; rfl
theorem ct_bm {k i : Nat} (hk : k < 64) (hi : i < 64) : ct (((1 : Int64) <<< ((Int32.toInt64 (nI k)) &&& 63)) - 1) i = decide (i < k) := by
  rw [ct_pred _ hi, ct_ng _ hi, ct_bit i hk]
  have ex : (∃ j, j < i ∧ ct ((1 : Int64) <<< ((Int32.toInt64 (nI k)) &&& 63)) j = true) ↔ k < i := by
    constructor
    · rintro ⟨j, hj, e⟩
      rw [ct_bit j hk] at e
      have := of_decide_eq_true e
      omega
    · intro h
      exact ⟨k, h, by rw [ct_bit k hk, decide_eq_true rfl]⟩
  rcases Nat.lt_trichotomy i k with q | q | q
  · rw [decide_eq_false (show ¬ i = k by omega), decide_eq_false (fun e => by have := ex.mp e; omega), decide_eq_true q]; rfl
  · rw [decide_eq_true q, decide_eq_false (fun e => by have := ex.mp e; omega), decide_eq_false (show ¬ i < k by omega)]; rfl
  · rw [decide_eq_false (show ¬ i = k by omega), decide_eq_true (ex.mpr q), decide_eq_false (show ¬ i < k by omega)]; rfl
theorem two_ct (hn : fb_ct (DKs S) 64 = fb_ct (LTs S) 64) : fb_ct (DKs S) 64 ≤ 32 := by
  have e := fb_ct_or (p := DKs S) (q := LTs S) (n := 64) (fun k _ u => by
    unfold DKs LTs at u
    rw [Bool.and_eq_true, Bool.and_eq_true] at u
    rw [u.1.2] at u
    exact absurd u.2.2 (by decide))
  have l := fb_ct_le (fun k => DKs S k || LTs S k) 64
  omega
theorem en_S (hd : jd w h r S) {n : Nat} (h1 : n = fb_ct (DKs S) 64) (h2 : n = fb_ct (LTs S) 64) : en n (kth (DKs S)) (kth (LTs S)) S := by
  have hb := jd_bh hd
  have dk1 : ∀ i, i < n → DKs S (kth (DKs S) i) = true := fun i hi => (kth_ok (by omega)).2.1
  have lt1 : ∀ i, i < n → LTs S (kth (LTs S) i) = true := fun i hi => (kth_ok (by omega)).2.1
  refine ⟨fun c => ⟨fun hc => ?_, fun hc => ?_⟩, fun i j hi hj e => ?_, fun i j hi hj e => ?_, fun i hi => ?_, fun i hi => ?_, hb⟩
  · have c64 := (hb c hc).2
    cases k : dk c
    · have hp : LTs S c = true := by unfold LTs; rw [hc, k]; rfl
      exact Or.inr ⟨fb_ct (LTs S) c, by rw [h2]; exact ct_in c64 hp, (kth_of c64 hp).symm⟩
    · have hp : DKs S c = true := by unfold DKs; rw [hc, k]; rfl
      exact Or.inl ⟨fb_ct (DKs S) c, by rw [h1]; exact ct_in c64 hp, (kth_of c64 hp).symm⟩
  · rcases hc with ⟨i, hi, e⟩ | ⟨i, hi, e⟩
    · have := dk1 i hi
      rw [← e] at this
      unfold DKs at this
      rw [Bool.and_eq_true] at this
      exact this.1
    · have := lt1 i hi
      rw [← e] at this
      unfold LTs at this
      rw [Bool.and_eq_true] at this
      exact this.1
  · have a := (kth_ok (p := DKs S) (k := i) (by omega)).2.2
    have b := (kth_ok (p := DKs S) (k := j) (by omega)).2.2
    rw [← a, ← b, e]
  · have a := (kth_ok (p := LTs S) (k := i) (by omega)).2.2
    have b := (kth_ok (p := LTs S) (k := j) (by omega)).2.2
    rw [← a, ← b, e]
  · have := dk1 i hi
    unfold DKs at this
    rw [Bool.and_eq_true] at this
    exact this.2
  · have := lt1 i hi
    unfold LTs at this
    rw [Bool.and_eq_true, Bool.not_eq_true'] at this
    exact this.2
/-- the entry, by remainders of p -/
def km (p w a b : Nat) : Nat := if nb w false a b = true then (if b = a + 8 ∨ a = b + 8 then (if a % 2 = 0 then 1 else p - 1) else 1) else 0
theorem km_lt {p w a b : Nat} (hp : 1 < p) : km p w a b < p := by
  unfold km
  repeat' split
  all_goals omega
theorem km_z {p w a b : Nat} (hp : 1 < p) : (p : Int) ∣ (km p w a b : Int) - kz w a b := by
  unfold km kz
  by_cases q1 : nb w false a b = true
  · rw [if_pos q1, if_pos q1]
    by_cases q2 : b = a + 8 ∨ a = b + 8
    · rw [if_pos q2, if_pos q2]
      by_cases q3 : a % 2 = 0
      · rw [if_pos q3, if_pos q3]; exact ⟨0, by omega⟩
      · rw [if_neg q3, if_neg q3]; exact ⟨1, by omega⟩
    · rw [if_neg q2, if_neg q2]; exact ⟨0, by omega⟩
  · rw [if_neg q1, if_neg q1]; exact ⟨0, by omega⟩
theorem sq_setSign {n ρ o s : Nat} {X Y : Int32} {light : Int64} (hw8 : w ≤ 8) (hh8 : h ≤ 8) (hj : jc w h r S z) (hn : n ≤ 32) (h2 : n = fb_ct (LTs S) 64) (hl : ∀ j, j < 64 → ct light j = LTs S j) (hρ : ρ < 32) (hO : ho w h S X Y = true → ∃ x' y', X = nI x' ∧ Y = nI y' ∧ o = 8 * y' + x' ∧ x' < 8 ∧ y' < 8 ∧ LTs S o = true) (k : ∀ z', fr [(3, 17)] z z' → (∀ q, q < n → tq_al z' 17 (32 * ρ + q) = if ho w h S X Y = true ∧ kth (LTs S) q = o then lN s else tq_al z 17 (32 * ρ + q)) → (∀ r' q, q < n → r' ≠ ρ → tq_al z' 17 (32 * r' + q) = tq_al z 17 (32 * r' + q)) → Q (.inl none) z') : wm_X3_setSign light (nI ρ) X Y (lN s) z Q := by
  unfold wm_X3_setSign
  refine sq_holds hw8 hh8 hj ⟨_, rfl, ?_⟩
  refine ⟨fun e => ?_, fun e => ?_⟩
  · rw [bi_0] at e
    refine k z fr_r (fun q hq => ?_) (fun _ _ _ _ => rfl)
    rw [if_neg (by rw [e]; simp)]
  · rw [bi_n] at e
    obtain ⟨x', y', rfl, rfl, ho, hx, hy, hL⟩ := hO e
    have o64 : o < 64 := by omega
    refine sq_bit ⟨_, rfl, ?_⟩
    refine sp_bc ⟨_, rfl, ?_⟩
    have cnt : fb_ct (ct (light &&& (((1 : Int64) <<< ((Int32.toInt64 (nI (8 * y' + x'))) &&& 63)) - 1))) 64 = fb_ct (LTs S) o := by
      rw [← ct_cut (p := LTs S) (k := o) (by omega)]
      refine fb_ct_cong (fun j hj => ?_)
      rw [ct_and, hl j hj, ← ho, ct_bm o64 hj]
    rw [cnt]
    have lt := ct_in o64 hL
    have ix : nI ρ * (32 : Int32) + nI (fb_ct (LTs S) o) = nI (32 * ρ + fb_ct (LTs S) o) := mt_ix
    dsimp only
    rw [ix]
    refine ⟨i_in (by omega) (by omega), fun z1 e1 => ?_⟩
    rw [i_cl (by omega)] at e1
    have a1 : ∀ i, tq_al z1 17 i = if i = 32 * ρ + fb_ct (LTs S) o then lN s else tq_al z 17 i := fun i => by rw [e1, rw_ale, rw_updL]
    refine k z1 (by rw [e1]; exact fr_sal (by decide) fr_r) (fun q hq => ?_) (fun r' q hq hr => ?_)
    · rw [a1]
      have kq := kth_ok (p := LTs S) (k := q) (by omega)
      by_cases c : kth (LTs S) q = o
      · rw [if_pos (show 32 * ρ + q = 32 * ρ + fb_ct (LTs S) o by rw [← c, kq.2.2]), if_pos ⟨e, c⟩]
      · have ne : ¬ 32 * ρ + q = 32 * ρ + fb_ct (LTs S) o := fun u => c (by
          have : q = fb_ct (LTs S) o := by omega
          rw [this]; exact kth_of o64 hL)
        rw [if_neg ne, if_neg (fun u => c u.2)]
    · rw [a1, if_neg (by omega)]
end MSG
