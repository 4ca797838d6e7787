/-! ===== the law's loop ===== -/
theorem lz_key {L m : Nat} (hL : L ≤ 2048) (hm : m ≤ 512) : ((Int32.ofNat L) - (4 : Int32)) < nI (4 * m) ↔ L < 4 * m + 4 := by
  show nI L - (4 : Int32) < nI (4 * m) ↔ _
  by_cases q : 4 ≤ L
  · rw [i_4, pk_sub q, i_lt (by omega) (by omega)]
    omega
  · refine ⟨fun _ => by omega, fun _ => ?_⟩
    rw [nu_lt, i_ti (by omega)]
    have : L = 0 ∨ L = 1 ∨ L = 2 ∨ L = 3 := by omega
    rcases this with rfl | rfl | rfl | rfl
    · have : (nI 0 - (4 : Int32)).toInt = -4 := by decide +kernel
      omega
    · have : (nI 1 - (4 : Int32)).toInt = -3 := by decide +kernel
      omega
    · have : (nI 2 - (4 : Int32)).toInt = -2 := by decide +kernel
      omega
    · have : (nI 3 - (4 : Int32)).toInt = -1 := by decide +kernel
      omega
def lz_Q : tq_O → tq_S → Prop := fun o _ => o = .inl (some (.int 1))
theorem lz_turn {K : Nat × (Nat → Int32)} {B : Int32 → tq_S → Prop} {z : tq_S} {m : Nat} (hL : K.1 ≤ 2048) (hm : m ≤ 512) (hJ : J m z) (hB : ∀ z', J (m + 1) z' → 4 * m + 4 ≤ K.1 → B (nI (4 * (m + 1))) z') : wb_law_28 K B lz_Q (nI (4 * m)) z := by
  unfold wb_law_28
  rw [lz_key hL hm]
  refine ⟨fun _ => rfl, fun q => ?_⟩
  have hn : m < 512 := by omega
  have i0 : vp_in (nI (4 * m)) K.1 := i_in (by omega) (by omega)
  have i1 : vp_in (nI (4 * m) + (1 : Int32)) K.1 := by rw [i_1, i_add]; exact i_in (by omega) (by omega)
  have i2 : vp_in (nI (4 * m) + (2 : Int32)) K.1 := by rw [i_2, i_add]; exact i_in (by omega) (by omega)
  have i3 : vp_in (nI (4 * m) + (3 : Int32)) K.1 := by rw [i_3, i_add]; exact i_in (by omega) (by omega)
  have hB' : ∀ z', J (m + 1) z' → B (nI (4 * m) + 4) z' := fun z' j => by
    have e := hB z' j (by omega)
    rw [show 4 * (m + 1) = 4 * m + 4 by omega] at e
    rw [i_4, i_add]; exact e
  exact ⟨i0, fun _ => lz_244 hn i1 i2 i3 hB' hJ, fun _ => lz_312 hn i1 i2 i3 hB' hJ, fun _ => lz_382 hn i1 i2 i3 hB' hJ, fun _ => lz_450 hn i1 i2 i3 hB' hJ, fun _ => lz_518 hn i1 i2 i3 hB' hJ, fun _ => lz_597 hn i1 i2 i3 hB' hJ, fun _ => lz_655 hn i1 i2 i3 hB' hJ, fun _ => lz_692 hn i1 i2 i3 hB' hJ, fun _ => lz_705 hn i1 i2 i3 hB' hJ, fun _ => lz_718 hn i1 i2 i3 hB' hJ, fun _ => lz_731 hn i1 i2 i3 hB' hJ, fun _ => lz_775 hn i1 i2 i3 hB' hJ, fun _ => lz_871 hn i1 i2 i3 hB' hJ, fun _ => lz_927 hn i1 i2 i3 hB' hJ, fun _ => lz_1015 hn i1 i2 i3 hB' hJ, fun _ => lz_1066 hn i1 i2 i3 hB' hJ, fun _ => lz_1117 hn i1 i2 i3 hB' hJ, fun _ => lz_1161 hn i1 i2 i3 hB' hJ, fun _ => lz_1229 hn i1 i2 i3 hB' hJ, fun _ => lz_1273 hn i1 i2 i3 hB' hJ, fun _ => lz_1329 hn i1 i2 i3 hB' hJ, fun _ => lz_1373 hn i1 i2 i3 hB' hJ, fun _ => lz_1417 hn i1 i2 i3 hB' hJ, fun _ => lz_1461 hn i1 i2 i3 hB' hJ, fun _ => lz_1529 hn i1 i2 i3 hB' hJ, fun _ => lz_1573 hn i1 i2 i3 hB' hJ, fun _ => lz_1586 hn i1 i2 i3 hB' hJ, fun _ => lz_1654 hn i1 i2 i3 hB' hJ, fun _ => lz_1712 hn i1 i2 i3 hB' hJ, fun _ => lz_1780 hn i1 i2 i3 hB' hJ, fun _ => lz_1892 hn i1 i2 i3 hB' hJ, fun _ => lz_1905 hn i1 i2 i3 hB' hJ, fun _ => lz_1949 hn i1 i2 i3 hB' hJ, fun _ => lz_1993 hn i1 i2 i3 hB' hJ, fun _ => lz_2073 hn i1 i2 i3 hB' hJ, fun _ => lz_2141 hn i1 i2 i3 hB' hJ, fun _ => lz_2197 hn i1 i2 i3 hB' hJ, fun _ => lz_2265 hn i1 i2 i3 hB' hJ, fun _ => lz_2345 hn i1 i2 i3 hB' hJ, fun _ => lz_2425 hn i1 i2 i3 hB' hJ, fun _ => lz_2481 hn i1 i2 i3 hB' hJ, fun _ => lz_2494 hn i1 i2 i3 hB' hJ, fun _ => lz_2538 hn i1 i2 i3 hB' hJ, fun _ => lz_2656 hn i1 i2 i3 hB' hJ, fun _ => lz_2721 hn i1 i2 i3 hB' hJ, fun _ => lz_2735 hn i1 i2 i3 hB' hJ, lz_2748 hn i1 i2 i3 hB' hJ⟩
theorem lz_loop {K : Nat × (Nat → Int32)} (hL : K.1 ≤ 2048) : ∀ k m z, m + k = 512 → J m z → tq_T K 93 (k + 1) mm_law 28 [.ref 902, .ref 0, .ref 51, .ref 87, .ref 88, .int (nI (4 * m)), .null, .null, .null] [] z lz_Q := by
  intro k
  induction k with
  | zero =>
    intro m z e hJ
    exact ab_law_28 (x := 0) (B28 := fun _ _ => False) (fun _ _ hf => hf.elim) (lz_turn hL (by omega) hJ (fun z' j u => by omega))
  | succ k ih =>
    intro m z e hJ
    refine ab_law_28 (x := k + 1) (B28 := fun b z => b = nI (4 * (m + 1)) ∧ J (m + 1) z) (fun b z hf => ?_) (lz_turn hL (by omega) hJ (fun z' j _ => ⟨rfl, j⟩))
    rw [hf.1]
    exact ih (m + 1) z (by omega) hf.2
