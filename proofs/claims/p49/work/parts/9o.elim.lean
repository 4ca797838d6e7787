section ELI
variable {n p : Nat} {z : tq_S} {Q : tq_O → tq_S → Prop} {M : Nat → Nat → Nat}
def zz (m : Nat) (M : Nat → Nat → Nat) : Nat → Nat → Int := fun r c => (M (m + r) (m + c) : Int)
theorem zm (a : Nat) (p : Nat) : (p : Int) ∣ ((a % p : Nat) : Int) - (a : Int) := by
  have := Nat.div_add_mod a p
  refine ⟨-((a / p : Nat) : Int), ?_⟩
  rw [Int.mul_neg, ← Int.natCast_mul]
  omega
theorem dvd_tr {p a b c : Int} (h1 : p ∣ a - b) (h2 : p ∣ b - c) : p ∣ a - c := by
  have := Int.dvd_add h1 h2
  rwa [show a - b + (b - c) = a - c by omega] at this
theorem dvd_sy {p a b : Int} (h1 : p ∣ a - b) : p ∣ b - a := by
  have := (Int.dvd_neg).mpr h1
  rwa [show -(a - b) = b - a by omega] at this
theorem eli_clr {m : Nat} {N : Nat → Nat → Nat} (hp : isp p) (hm : m < n) (hN : ∀ r c, r < n → c < n → N r c < p) (h0 : N m m ≠ 0) : (p : Int) ∣ dt (n - m) (zz m N) - (N m m : Int) * dt (n - (m + 1)) (zz (m + 1) (clr p (inv (N m m) p) m N)) := by
  have hp1 := hp.1
  obtain ⟨k, hk⟩ : ∃ k, n - m = k + 1 := ⟨n - m - 1, by omega⟩
  have hk2 : n - (m + 1) = k := by omega
  obtain ⟨v, hv⟩ : ∃ v, v = inv (N m m) p := ⟨_, rfl⟩
  have vv : N m m * v % p = 1 := by rw [hv]; exact inv_ok hp (by omega) (by omega) (hN m m hm hm)
  rw [← hv, hk, hk2]
  have c1 := dt_clr (A := zz m N) (fun r => ((N (m + r) m * v % p : Nat) : Int)) (show 0 < k + 1 by omega) (k + 1) (Nat.le_refl _)
  rw [← c1]
  have c2 : (p : Int) ∣ dt (k + 1) (fun r c => if 0 < r ∧ r < k + 1 then zz m N r c - ((N (m + r) m * v % p : Nat) : Int) * zz m N 0 c else zz m N r c) - dt (k + 1) (fun r c => if 0 < r ∧ r < k + 1 then (if c = 0 then 0 else zz m (clr p v m N) r c) else zz m N r c) := by
    refine dt_mod (k + 1) (fun r c hr hc => ?_)
    by_cases q : 0 < r ∧ r < k + 1
    · rw [if_pos q, if_pos q]
      have key : (p : Int) ∣ ((N (m + r) m * v % p : Nat) : Int) * (N m (m + c) : Int) - ((N (m + r) m * v % p * N m (m + c) % p : Nat) : Int) := by
        have := dvd_sy (zm (N (m + r) m * v % p * N m (m + c)) p)
        rwa [Int.natCast_mul] at this
      by_cases qc : c = 0
      · rw [if_pos qc, qc]
        have a1 := zm (N (m + r) m * v) p
        have a2 : (p : Int) ∣ ((N m m * v : Nat) : Int) - 1 := by
          have := dvd_sy (zm (N m m * v) p)
          rw [vv] at this; exact this
        have a3 := dvd_mm a1 (show (p : Int) ∣ (N m m : Int) - (N m m : Int) from ⟨0, by omega⟩)
        have a4 := dvd_mm (show (p : Int) ∣ (N (m + r) m : Int) - (N (m + r) m : Int) from ⟨0, by omega⟩) a2
        have a5 : ((N (m + r) m * v : Nat) : Int) * (N m m : Int) = (N (m + r) m : Int) * ((N m m * v : Nat) : Int) := by
          rw [Int.natCast_mul, Int.natCast_mul, Int.mul_assoc, Int.mul_comm (v : Int)]
        rw [a5] at a3
        have a6 := dvd_sy (dvd_tr a3 a4)
        unfold zz
        rw [Int.mul_one] at a6
        rw [Nat.add_zero, Int.sub_zero]
        exact a6
      · rw [if_neg qc]
        unfold zz clr
        rw [if_pos (by omega), Nat.add_zero]
        have lt := Nat.mod_lt (N (m + r) m * v % p * N m (m + c)) (show 0 < p by omega)
        have b1 := zm (N (m + r) (m + c) + (p - N (m + r) m * v % p * N m (m + c) % p)) p
        have e1 : ((N (m + r) (m + c) + (p - N (m + r) m * v % p * N m (m + c) % p) : Nat) : Int) = (N (m + r) (m + c) : Int) - ((N (m + r) m * v % p * N m (m + c) % p : Nat) : Int) + (p : Int) := by omega
        rw [e1] at b1
        have b2 := Int.dvd_add (Int.dvd_add (dvd_sy b1) (show (p : Int) ∣ -(p : Int) from ⟨-1, by omega⟩)) (dvd_sy key)
        refine Int.dvd_trans b2 ⟨1, ?_⟩
        generalize ((N (m + r) m * v % p : Nat) : Int) * (N m (m + c) : Int) = X
        omega
    · rw [if_neg q, if_neg q]; exact ⟨0, by omega⟩
  have c3 := dt_one (n := k) (k := 0) (A := fun r c => if 0 < r ∧ r < k + 1 then (if c = 0 then 0 else zz m (clr p v m N) r c) else zz m N r c) (by omega) (fun r hr hne => by
    rw [if_pos (by omega), if_pos rfl])
  rw [c3] at c2
  refine Int.dvd_trans c2 ⟨1, ?_⟩
  have e : dt k (fun r c => if 0 < upp 0 r ∧ upp 0 r < k + 1 then (if c + 1 = 0 then 0 else zz m (clr p v m N) (upp 0 r) (c + 1)) else zz m N (upp 0 r) (c + 1)) = dt k (zz (m + 1) (clr p v m N)) := dt_c k (fun r c hr hc => by
    have u : upp 0 r = r + 1 := by unfold upp; rw [if_neg (by omega)]
    rw [u, if_pos (by omega), if_neg (by omega)]
    unfold zz
    rw [show m + (r + 1) = m + 1 + r by omega, show m + (c + 1) = m + 1 + c by omega])
  rw [if_neg (by omega)]
  have e0 : sg1 0 = 1 := rfl
  rw [e0, Int.one_mul, Int.mul_one]
  rw [show dt k (fun r c => if 0 < upp 0 r ∧ upp 0 r < k + 1 then (if c + 1 = 0 then 0 else zz m (clr p v m N) (upp 0 r) (c + 1)) else zz m N (upp 0 r) (c + 1)) = dt k (zz (m + 1) (clr p v m N)) from e]
  rfl
theorem eli_swp {m q : Nat} (hq1 : m < q) (hq2 : q < n) : dt (n - m) (zz m (swp m q M)) = - dt (n - m) (zz m M) := by
  have e := dt_sw (n := n - m) (i := 0) (q := q - m) (A := zz m M) (by omega) (by omega)
  rw [← e]
  refine dt_c _ (fun r c _ _ => ?_)
  unfold zz swp tsp
  by_cases q1 : r = 0
  · rw [if_pos (by omega), if_pos q1, show m + (q - m) = q by omega]
  · rw [if_neg (by omega), if_neg q1]
    by_cases q2 : r = q - m
    · rw [if_pos (by omega), if_pos q2]; rfl
    · rw [if_neg (by omega), if_neg q2]
theorem sq_det (hn : n ≤ 32) (hpp : isp p) (hp1 : 2 < p) (hp : p ≤ 2147483647) (hm : mt n M z) (hM : ∀ r c, r < n → c < n → M r c < p) (k : ∀ res z', fr [(3, 17)] z z' → res < p → (p : Int) ∣ (res : Int) - dt n (zz 0 M) → Q (.inl (some (.long (lN res)))) z') : wm_X3_eliminate (nI n) (lN p) z Q := by
  refine sq_eliminate (fun m res M' => (p : Int) ∣ (res : Int) * dt (n - m) (zz m M') - dt n (zz 0 M)) hn hp1 hp hm hM ?_ ?_ ?_ ?_
  · show (p : Int) ∣ ((1 : Nat) : Int) * dt (n - 0) (zz 0 M) - dt n (zz 0 M)
    rw [Nat.sub_zero]
    refine ⟨0, ?_⟩
    rw [Int.mul_zero, show ((1 : Nat) : Int) = 1 from rfl, Int.one_mul, Int.sub_self]
  · intro m res M' hmn hR hres hM' q hq1 hq2 hq3 _
    have step : ∀ (N : Nat → Nat → Nat) (rr : Nat), (∀ r c, r < n → c < n → N r c < p) → N m m ≠ 0 → (p : Int) ∣ (rr : Int) * dt (n - m) (zz m N) - dt n (zz 0 M) → (p : Int) ∣ ((rr * N m m % p : Nat) : Int) * dt (n - (m + 1)) (zz (m + 1) (clr p (inv (N m m) p) m N)) - dt n (zz 0 M) := by
      intro N rr hN h0 h
      have a := eli_clr hpp hmn hN h0
      have b := dvd_mm (show (p : Int) ∣ (rr : Int) - (rr : Int) from ⟨0, by omega⟩) (dvd_sy a)
      have c := dvd_mm (zm (rr * N m m) p) (show (p : Int) ∣ dt (n - (m + 1)) (zz (m + 1) (clr p (inv (N m m) p) m N)) - dt (n - (m + 1)) (zz (m + 1) (clr p (inv (N m m) p) m N)) from ⟨0, by omega⟩)
      rw [Int.natCast_mul rr, Int.mul_assoc] at c
      exact dvd_tr (dvd_tr c b) h
    by_cases qm : q = m
    · rw [if_pos qm, if_pos qm]
      rw [qm] at hq3
      exact step M' res hM' hq3 hR
    · rw [if_neg qm, if_neg qm]
      refine step (swp m q M') (p - res) (fun r c hr hc => ?_) ?_ ?_
      · unfold swp
        split
        · exact hM' _ _ hq2 hc
        · split
          · exact hM' _ _ hmn hc
          · exact hM' _ _ hr hc
      · unfold swp
        rw [if_pos rfl]; exact hq3
      · rw [eli_swp (by omega) hq2]
        have e : ((p - res : Nat) : Int) * - dt (n - m) (zz m M') = (res : Int) * dt (n - m) (zz m M') - (p : Int) * dt (n - m) (zz m M') := by
          rw [show ((p - res : Nat) : Int) = (p : Int) - (res : Int) by omega, Int.mul_neg, Int.sub_mul]
          omega
        rw [e]
        have := Int.dvd_sub hR (show (p : Int) ∣ (p : Int) * dt (n - m) (zz m M') from Int.dvd_mul_right _ _)
        refine Int.dvd_trans this ⟨1, ?_⟩
        omega
  · intro m res M' z' hmn hR hM' h0 f
    refine k 0 z' f (by omega) ?_
    have d0 : dt (n - m) (zz m M') = 0 := dt_z (by omega) (fun r hr => by
      unfold zz
      rw [Nat.add_zero, h0 (m + r) (by omega) (by omega)]; rfl)
    rw [d0, Int.mul_zero] at hR
    exact hR
  · intro res M' z' hR hres hM' f
    refine k res z' f hres ?_
    rw [Nat.sub_self] at hR
    have hR : (p : Int) ∣ (res : Int) * 1 - dt n (zz 0 M) := hR
    rwa [Int.mul_one] at hR
end ELI
