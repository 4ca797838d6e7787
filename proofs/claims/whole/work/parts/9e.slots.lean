/-! ===== all rows of the class's table through a cell ===== -/
section SLO
variable {w h : Nat} {r : Bool} {S : Nat → Bool} {z : tq_S} {Q : tq_O → tq_S → Prop}
theorem l_low {n : Nat} : Int64.toInt32 ((lN n) &&& (262143 : Int64)) = nI (n % 262144) := by
  rw [show (262143 : Int64) = lN (2 ^ 18 - 1) from rfl, fb_maskL, show (2 : Nat) ^ 18 = 262144 from rfl]
  refine ib_ext (fun i hi => ?_)
  rw [ib_l _ _ hi, ct_lN, ib_n, decide_eq_true hi, decide_eq_true (by omega : i < 64)]
/-- the row of a slot, when a cell of column x comes -/
def ky (x : Nat) (K : Nat → Nat) (j : Nat) : Nat := if x = 0 then 4 * K j else K j
theorem ky_b {x k : Nat} {K V : Nat → Nat} {A : Nat → Int64} (hA : HT K V A) (h8 : x = 0 → ∀ j, j < 1024 → V j ≠ 0 → bal 8 (K j)) (hk : k < 1024) (hv : V k ≠ 0) : bal 9 (ky x K k) := by
  unfold ky
  by_cases q : x = 0
  · rw [if_pos q]; exact bal_sh (h8 q k hk hv)
  · rw [if_neg q]; exact hA.2.1 k hk hv
theorem sm_pt2 {V : Nat → Nat} {N i : Nat} (hi : i < N) : fb_sm V i + V i ≤ fb_sm V N := fb_sm_part V hi
theorem ky_key {x k : Nat} {K V : Nat → Nat} {A : Nat → Int64} (hA : HT K V A) (h8 : x = 0 → ∀ j, j < 1024 → V j ≠ 0 → bal 8 (K j)) (hk : k < 1024) (hv : V k ≠ 0) : (x = 0 → ((nI (K k)) <<< ((2 : Int32) &&& 31)) &&& (262143 : Int32) = nI (ky x K k)) ∧ (x ≠ 0 → nI (K k) = nI (ky x K k)) := by
  refine ⟨fun q => ?_, fun q => ?_⟩
  · have b := bal_lt (h8 q k hk hv)
    have b : K k < 65536 := b
    unfold ky
    rw [if_pos q, i_2, i_shN (by omega) (by omega), show (262143 : Int32) = nI 262143 from rfl, i_mod (k := 18) rfl]
    congr 1
    omega
  · unfold ky
    rw [if_neg q]
end SLO
