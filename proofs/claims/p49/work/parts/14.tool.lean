/-! ===== counting loops ===== -/
theorem lp_inv {σ : Type} {F : (σ → Prop) → σ → Prop} (I : Nat → σ → Prop) (n : Nat) (h : ∀ m s, m ≤ n → I m s → ∀ B : σ → Prop, (m < n → ∀ s', I (m + 1) s' → B s') → F B s) {s : σ} (hs : I 0 s) : tq_lp F s := by
  have key : ∀ k m s, m + k = n → I m s → tq_it (k + 1) F s := by
    intro k
    induction k with
    | zero => intro m s hm hI; exact h m s (by omega) hI _ (fun h1 => absurd h1 (by omega))
    | succ k ih => intro m s hm hI; exact h m s (by omega) hI _ (fun _ s' hs' => ih (m + 1) s' (by omega) hs')
  exact ⟨n + 1, key n 0 s (by omega) hs⟩
theorem lp_for {σ : Type} {F : (σ → Prop) → σ → Prop} (st : Nat → σ) (n : Nat) (h : ∀ m, m ≤ n → ∀ B : σ → Prop, (m < n → B (st (m + 1))) → F B (st m)) {s : σ} (hs : s = st 0) : tq_lp F s := by
  refine lp_inv (fun m s => s = st m) n ?_ hs
  rintro m s hm rfl B hB
  exact h m hm B (fun h1 => hB h1 _ rfl)
/-! ===== small numbers ===== -/
theorem i_add (a b : Nat) : nI a + nI b = nI (a + b) := (Int32.ofNat_add a b).symm
theorem i_le {a b : Nat} (ha : a < 2147483648) (hb : b < 2147483648) : nI a ≤ nI b ↔ a ≤ b := Int32.ofNat_le_iff_le ha hb
theorem i_lt {a b : Nat} (ha : a < 2147483648) (hb : b < 2147483648) : nI a < nI b ↔ a < b := Int32.ofNat_lt_iff_lt ha hb
theorem i_ti {a : Nat} (ha : a < 2147483648) : (nI a).toInt = (a : Int) := Int32.toInt_ofNat_of_lt ha
theorem i_eq {a b : Nat} (ha : a < 2147483648) (hb : b < 2147483648) : nI a = nI b ↔ a = b := by
  rw [nu_eq, i_ti ha, i_ti hb]; omega
theorem i_in {a n : Nat} (h : a < n) (h2 : n ≤ 2147483648) : vp_in (nI a) n := nu_in (by rw [i_ti (by omega)]; omega) (by rw [i_ti (by omega)]; omega)
theorem i_cl {a : Nat} (h : a < 2147483648) : Int32.toNatClampNeg (nI a) = a := Int32.toNatClampNeg_ofNat_of_lt h
theorem i_n0 {a : Nat} (h : a < 2147483648) : ¬ nI a < 0 := by
  have h1 : (0 : Int32) = nI 0 := rfl
  rw [h1, i_lt h (by omega)]; omega
theorem i_ex {x : Int32} (h : ¬ x < 0) : ∃ m, m < 2147483648 ∧ x = nI m := by
  have h1 := nu_b x
  have h2 : 0 ≤ x.toInt := by
    have := mt nu_lt.mpr h
    have h3 : (0 : Int32).toInt = 0 := rfl
    omega
  refine ⟨x.toInt.toNat, by omega, nu_eq.mpr ?_⟩
  rw [i_ti (by omega)]; omega
theorem i_to {a : Nat} (h : a < 2147483648) : Int32.toInt64 (nI a) = lN a := Int32.toInt64_ofNat' (by have : Int32.maxValue.toInt = 2147483647 := rfl; omega)
theorem l_add (a b : Nat) : lN a + lN b = lN (a + b) := (Int64.ofNat_add a b).symm
theorem l_mul (a b : Nat) : lN a * lN b = lN (a * b) := (Int64.ofNat_mul a b).symm
theorem l_sub {a b : Nat} (h : b ≤ a) : lN a - lN b = lN (a - b) := (Int64.ofNat_sub a b h).symm
/-! ===== literals ===== -/
theorem i_0 : (0 : Int32) = nI 0 := rfl
theorem i_1 : (1 : Int32) = nI 1 := rfl
theorem i_2 : (2 : Int32) = nI 2 := rfl
theorem i_3 : (3 : Int32) = nI 3 := rfl
theorem i_4 : (4 : Int32) = nI 4 := rfl
theorem i_5 : (5 : Int32) = nI 5 := rfl
theorem i_6 : (6 : Int32) = nI 6 := rfl
theorem i_7 : (7 : Int32) = nI 7 := rfl
theorem i_8 : (8 : Int32) = nI 8 := rfl
theorem i_9 : (9 : Int32) = nI 9 := rfl
theorem i_10 : (10 : Int32) = nI 10 := rfl
theorem i_12 : (12 : Int32) = nI 12 := rfl
theorem i_16 : (16 : Int32) = nI 16 := rfl
theorem i_26 : (26 : Int32) = nI 26 := rfl
theorem i_30 : (30 : Int32) = nI 30 := rfl
theorem i_32 : (32 : Int32) = nI 32 := rfl
theorem i_34 : (34 : Int32) = nI 34 := rfl
theorem i_36 : (36 : Int32) = nI 36 := rfl
theorem i_64 : (64 : Int32) = nI 64 := rfl
theorem i_81 : (81 : Int32) = nI 81 := rfl
theorem i_102 : (102 : Int32) = nI 102 := rfl
theorem i_110 : (110 : Int32) = nI 110 := rfl
theorem i_256 : (256 : Int32) = nI 256 := rfl
theorem i_512 : (512 : Int32) = nI 512 := rfl
theorem l_0 : (0 : Int64) = lN 0 := rfl
theorem l_1 : (1 : Int64) = lN 1 := rfl
theorem l_2 : (2 : Int64) = lN 2 := rfl
theorem l_10 : (10 : Int64) = lN 10 := rfl
/-! ===== cells: the bits of a long ===== -/
def ct (c : Int64) (i : Nat) : Bool := c.toBitVec.getLsbD i
theorem ct_ext {a b : Int64} (h : ∀ i, i < 64 → ct a i = ct b i) : a = b := Int64.toBitVec.inj (BitVec.eq_of_getLsbD_eq h)
theorem ct_and (a b : Int64) (i : Nat) : ct (a &&& b) i = (ct a i && ct b i) := by
  show (a.toBitVec &&& b.toBitVec).getLsbD i = _
  rw [BitVec.getLsbD_and]; rfl
theorem ct_or (a b : Int64) (i : Nat) : ct (a ||| b) i = (ct a i || ct b i) := by
  show (a.toBitVec ||| b.toBitVec).getLsbD i = _
  rw [BitVec.getLsbD_or]; rfl
theorem ct_xor (a b : Int64) (i : Nat) : ct (a ^^^ b) i = (ct a i ^^ ct b i) := by
  show (a.toBitVec ^^^ b.toBitVec).getLsbD i = _
  rw [BitVec.getLsbD_xor]; rfl
theorem ct_big {a : Int64} {i : Nat} (h : 64 ≤ i) : ct a i = false := BitVec.getLsbD_of_ge _ _ h
theorem ct_0 (i : Nat) : ct (0 : Int64) i = false := by
  show (0#64).getLsbD i = false
  simp
theorem ct_m1 (i : Nat) : ct (-1 : Int64) i = decide (i < 64) := by
  show (BitVec.allOnes 64).getLsbD i = _
  exact BitVec.getLsbD_allOnes
theorem ct_not (a : Int64) (i : Nat) : ct (a ^^^ (-1 : Int64)) i = (decide (i < 64) && !ct a i) := by
  rw [ct_xor, ct_m1]
  by_cases h : i < 64
  · simp [h]
  · simp [h, ct_big (show 64 ≤ i by omega)]
theorem ct_n0 {a : Int64} : a = 0 ↔ ∀ i, i < 64 → ct a i = false := ⟨fun h i _ => by rw [h, ct_0], fun h => ct_ext fun i hi => by rw [h i hi, ct_0]⟩
theorem ct_sa : ∀ k : Fin 64, ((Int32.toInt64 (nI k.val)) &&& 63).toBitVec.smod 64 = BitVec.ofNat 64 k.val := by decide +kernel
theorem ct_sb : ∀ k : Fin 64, ((Int32.toInt64 (nI k.val)).toUInt64 &&& Int64.toUInt64 63).toBitVec % 64 = BitVec.ofNat 64 k.val := by decide +kernel
theorem ct_shl (a : Int64) {k : Nat} (i : Nat) (hk : k < 64) : ct (a <<< ((Int32.toInt64 (nI k)) &&& 63)) i = (decide (i < 64) && (decide (k ≤ i) && ct a (i - k))) := by
  show (a.toBitVec <<< (((Int32.toInt64 (nI k)) &&& 63).toBitVec.smod 64)).getLsbD i = _
  rw [ct_sa ⟨k, hk⟩, BitVec.shiftLeft_eq', BitVec.getLsbD_shiftLeft]
  have h1 : (BitVec.ofNat 64 k).toNat = k := by rw [BitVec.toNat_ofNat]; omega
  rw [h1]
  by_cases h2 : k ≤ i
  · simp [h2, ct, show ¬ i < k by omega]
  · simp [h2, show i < k by omega]
theorem ct_shr (a : Int64) {k : Nat} (i : Nat) (hk : k < 64) : ct (((Int64.toUInt64 a) >>> ((Int32.toInt64 (nI k)).toUInt64 &&& Int64.toUInt64 63)).toInt64) i = ct a (k + i) := by
  show (a.toBitVec >>> (((Int32.toInt64 (nI k)).toUInt64 &&& Int64.toUInt64 63).toBitVec % 64)).getLsbD i = _
  rw [ct_sb ⟨k, hk⟩, BitVec.ushiftRight_eq', BitVec.getLsbD_ushiftRight]
  have h1 : (BitVec.ofNat 64 k).toNat = k := by rw [BitVec.toNat_ofNat]; omega
  rw [h1]; rfl
theorem ct_1 (i : Nat) : ct (1 : Int64) i = decide (i = 0) := by
  show (1#64).getLsbD i = _
  rw [BitVec.getLsbD_one]; simp
theorem ct_bit {k : Nat} (i : Nat) (hk : k < 64) : ct ((1 : Int64) <<< ((Int32.toInt64 (nI k)) &&& 63)) i = decide (i = k) := by
  rw [ct_shl _ _ hk, ct_1]
  by_cases h : i = k
  · subst h; simp [hk]
  · by_cases h2 : k ≤ i
    · simp [h, show ¬ i - k = 0 by omega]
    · simp [h, h2]
theorem ct_and1 (a : Int64) (i : Nat) : ct (a &&& 1) i = (decide (i = 0) && ct a 0) := by
  rw [ct_and, ct_1]
  by_cases h : i = 0
  · subst h; simp
  · simp [h]
theorem ct_t1 {a : Int64} {k : Nat} (hk : k < 64) : ((((Int64.toUInt64 a) >>> ((Int32.toInt64 (nI k)).toUInt64 &&& Int64.toUInt64 63)).toInt64 &&& (1 : Int64)) = (0 : Int64)) ↔ ct a k = false := by
  rw [ct_n0]
  refine ⟨fun h => ?_, fun h i hi => ?_⟩
  · have h1 := h 0 (by omega)
    rw [ct_and1, ct_shr _ _ hk] at h1
    simpa using h1
  · rw [ct_and1, ct_shr _ _ hk, Nat.add_zero, h]; simp
theorem ct_low (a : Int64) (i : Nat) : ct (a &&& (-a)) i = (ct a i && decide (∀ j, j < i → ct a j = false)) := by
  rw [ct_and]
  show (ct a i && (-a.toBitVec).getLsbD i) = _
  rw [BitVec.getLsbD_neg]
  show (ct a i && (ct a i ^^ (decide (i < 64) && decide (∃ j, j < i ∧ ct a j = true)))) = _
  cases hb : ct a i
  · rfl
  · have h1 : i < 64 := by
      refine Classical.byContradiction fun h => ?_
      rw [ct_big (by omega)] at hb; cases hb
    by_cases h2 : ∀ j, j < i → ct a j = false
    · have h3 : ¬ ∃ j, j < i ∧ ct a j = true := fun ⟨j, hj, e⟩ => by rw [h2 j hj] at e; cases e
      rw [decide_eq_false h3, decide_eq_true h2]; simp
    · have h3 : ∃ j, j < i ∧ ct a j = true := by
        refine Classical.byContradiction fun h4 => h2 fun j hj => ?_
        cases hc : ct a j
        · rfl
        · exact absurd ⟨j, hj, hc⟩ h4
      rw [decide_eq_true h3, decide_eq_false h2, decide_eq_true h1]; simp
theorem ct_ne {a : Int64} : ¬ a = 0 ↔ ∃ i, i < 64 ∧ ct a i = true := by
  rw [ct_n0]
  refine ⟨fun h => Classical.byContradiction fun h2 => h fun i hi => ?_, fun ⟨i, hi, h⟩ h2 => by rw [h2 i hi] at h; cases h⟩
  cases hc : ct a i
  · rfl
  · exact absurd ⟨i, hi, hc⟩ h2
/-! ===== what stays as it was ===== -/
def fr (F : List (Nat × Nat)) (z z' : tq_S) : Prop := (∀ k, (0, k) ∉ F → tq_fi z' k = tq_fi z k) ∧ (∀ k, (1, k) ∉ F → tq_fl z' k = tq_fl z k) ∧ (∀ k, (2, k) ∉ F → tq_ai z' k = tq_ai z k) ∧ (∀ k, (3, k) ∉ F → tq_al z' k = tq_al z k) ∧ (∀ k, (4, k) ∉ F → tq_ad z' k = tq_ad z k)
section FR
variable {F G : List (Nat × Nat)} {z z1 z2 : tq_S} {k : Nat}
theorem fr_r : fr F z z := ⟨fun _ _ => rfl, fun _ _ => rfl, fun _ _ => rfl, fun _ _ => rfl, fun _ _ => rfl⟩
theorem fr_t (h : fr F z z1) (h2 : fr F z1 z2) : fr F z z2 := ⟨fun k hk => (h2.1 k hk).trans (h.1 k hk), fun k hk => (h2.2.1 k hk).trans (h.2.1 k hk), fun k hk => (h2.2.2.1 k hk).trans (h.2.2.1 k hk), fun k hk => (h2.2.2.2.1 k hk).trans (h.2.2.2.1 k hk), fun k hk => (h2.2.2.2.2 k hk).trans (h.2.2.2.2 k hk)⟩
theorem fr_m (hFG : F ⊆ G) (h : fr F z z1) : fr G z z1 := ⟨fun k hk => h.1 k (fun m => hk (hFG m)), fun k hk => h.2.1 k (fun m => hk (hFG m)), fun k hk => h.2.2.1 k (fun m => hk (hFG m)), fun k hk => h.2.2.2.1 k (fun m => hk (hFG m)), fun k hk => h.2.2.2.2 k (fun m => hk (hFG m))⟩
theorem fr_sfi {v : Int32} (hm : (0, k) ∈ F) (h : fr F z z1) : fr F z (tq_sfi z1 k v) := by
  refine fr_t h ⟨fun j hj => ?_, fun _ _ => rfl, fun _ _ => rfl, fun _ _ => rfl, fun _ _ => rfl⟩
  rw [rw_fi_fi, if_neg]
  intro e; subst e; exact hj hm
theorem fr_sfl {v : Int64} (hm : (1, k) ∈ F) (h : fr F z z1) : fr F z (tq_sfl z1 k v) := by
  refine fr_t h ⟨fun _ _ => rfl, fun j hj => ?_, fun _ _ => rfl, fun _ _ => rfl, fun _ _ => rfl⟩
  rw [rw_fl_fl, if_neg]
  intro e; subst e; exact hj hm
theorem fr_sai {v : Nat → Int32} (hm : (2, k) ∈ F) (h : fr F z z1) : fr F z (tq_sai z1 k v) := by
  refine fr_t h ⟨fun _ _ => rfl, fun _ _ => rfl, fun j hj => ?_, fun _ _ => rfl, fun _ _ => rfl⟩
  rw [rw_ai_ai, if_neg]
  intro e; subst e; exact hj hm
theorem fr_sal {v : Nat → Int64} (hm : (3, k) ∈ F) (h : fr F z z1) : fr F z (tq_sal z1 k v) := by
  refine fr_t h ⟨fun _ _ => rfl, fun _ _ => rfl, fun _ _ => rfl, fun j hj => ?_, fun _ _ => rfl⟩
  rw [rw_al_al, if_neg]
  intro e; subst e; exact hj hm
theorem fr_fi (h : fr F z z1) (hk : (0, k) ∉ F) : tq_fi z1 k = tq_fi z k := h.1 k hk
theorem fr_fl (h : fr F z z1) (hk : (1, k) ∉ F) : tq_fl z1 k = tq_fl z k := h.2.1 k hk
theorem fr_ai (h : fr F z z1) (hk : (2, k) ∉ F) : tq_ai z1 k = tq_ai z k := h.2.2.1 k hk
theorem fr_al (h : fr F z z1) (hk : (3, k) ∉ F) : tq_al z1 k = tq_al z k := h.2.2.2.1 k hk
end FR
theorem rw_aie {z : tq_S} {k : Nat} {v : Nat → Int32} : tq_ai (tq_sai z k v) k = v := by rw [rw_ai_ai, if_pos rfl]
theorem rw_ale {z : tq_S} {k : Nat} {v : Nat → Int64} : tq_al (tq_sal z k v) k = v := by rw [rw_al_al, if_pos rfl]
theorem rw_fie {z : tq_S} {k : Nat} {v : Int32} : tq_fi (tq_sfi z k v) k = v := by rw [rw_fi_fi, if_pos rfl]
theorem rw_fle {z : tq_S} {k : Nat} {v : Int64} : tq_fl (tq_sfl z k v) k = v := by rw [rw_fl_fl, if_pos rfl]
theorem rw_ain {z : tq_S} {k k1 : Nat} {v : Nat → Int32} (h : k1 ≠ k) : tq_ai (tq_sai z k v) k1 = tq_ai z k1 := by rw [rw_ai_ai, if_neg h]
theorem rw_aln {z : tq_S} {k k1 : Nat} {v : Nat → Int64} (h : k1 ≠ k) : tq_al (tq_sal z k v) k1 = tq_al z k1 := by rw [rw_al_al, if_neg h]
/-! ===== masks of a few bits ===== -/
theorem i_or (a b : Nat) : nI a ||| nI b = nI (a ||| b) := Int32.toBitVec.inj (by
  show BitVec.ofNat 32 a ||| BitVec.ofNat 32 b = BitVec.ofNat 32 (a ||| b)
  exact (BitVec.ofNat_or).symm)
theorem i_and (a b : Nat) : nI a &&& nI b = nI (a &&& b) := Int32.toBitVec.inj (by
  show BitVec.ofNat 32 a &&& BitVec.ofNat 32 b = BitVec.ofNat 32 (a &&& b)
  exact (BitVec.ofNat_and).symm)
theorem i_sm : ∀ k : Fin 32, (((nI k.val) &&& 31).toBitVec.smod 32).toNat = k.val := by decide +kernel
theorem i_pw {x : Nat} (h : x < 31) : (1 : Int32) <<< ((nI x) &&& 31) = nI (2 ^ x) := by
  have h2 : 2 ^ x < 2 ^ 32 := Nat.pow_lt_pow_right (by omega) (by omega)
  rw [i_1, pk_shlN _ x (i_sm ⟨x, by omega⟩) (by omega), Nat.one_mul]
