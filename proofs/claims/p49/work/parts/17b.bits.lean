/-! ===== lN n to 2^64: shifts, and, or, masks, one bit ===== -/
theorem wb_tb (n : Nat) : (lN n).toBitVec = BitVec.ofNat 64 n := rfl
theorem wb_inj {a b : Int64} (h : a.toBitVec = b.toBitVec) : a = b := Int64.toBitVec_inj.mp h
theorem wb_tn {n : Nat} (h : n < 2 ^ 64) : (lN n).toBitVec.toNat = n := by rw [wb_tb, BitVec.toNat_ofNat, Nat.mod_eq_of_lt h]
theorem wb_of (x : Int64) : ∃ n, n < 2 ^ 64 ∧ x = lN n := ⟨x.toBitVec.toNat, x.toBitVec.isLt, wb_inj (by rw [wb_tb]; simp)⟩
theorem wb_of32 (x : Int32) : ∃ n, n < 2 ^ 32 ∧ x = nI n := ⟨x.toBitVec.toNat, x.toBitVec.isLt, Int32.toBitVec_inj.mp (by show _ = BitVec.ofNat 32 _; simp)⟩
theorem wb_c : ∀ k, k < 64 → ((nI k).toInt64 &&& 63) = lN k := by decide +kernel
theorem wb_cu : ∀ k, k < 64 → ((nI k).toInt64.toUInt64 &&& Int64.toUInt64 63) = UInt64.ofNat k := by decide +kernel
theorem wb_sm : ∀ k, k < 64 → (BitVec.ofNat 64 k).smod 64 = BitVec.ofNat 64 k := by decide +kernel
theorem wb_shr {n k : Nat} (hn : n < 2 ^ 64) (hk : k < 64) : ((lN n).toUInt64 >>> ((nI k).toInt64.toUInt64 &&& Int64.toUInt64 63)).toInt64 = lN (n / 2 ^ k) := by
  rw [wb_cu k hk]
  apply wb_inj
  apply BitVec.eq_of_toNat_eq
  show ((lN n).toUInt64 >>> UInt64.ofNat k).toNat = (BitVec.ofNat 64 _).toNat
  have h1 : (UInt64.ofNat k).toNat = k := by
    show (BitVec.ofNat 64 k).toNat = k
    rw [BitVec.toNat_ofNat, Nat.mod_eq_of_lt (by omega)]
  have h2 : (lN n).toUInt64.toNat = n := wb_tn hn
  rw [UInt64.toNat_shiftRight, h1, h2, Nat.mod_eq_of_lt hk, Nat.shiftRight_eq_div_pow, BitVec.toNat_ofNat, Nat.mod_eq_of_lt (Nat.lt_of_le_of_lt (Nat.div_le_self _ _) hn)]
theorem wb_shl (n : Nat) {k : Nat} (hk : k < 64) : lN n <<< ((nI k).toInt64 &&& 63) = lN (n * 2 ^ k) := by
  rw [wb_c k hk]
  apply wb_inj
  rw [Int64.toBitVec_shiftLeft, wb_tb, wb_tb, wb_tb, wb_sm k hk]
  apply BitVec.eq_of_toNat_eq
  rw [BitVec.shiftLeft_eq', BitVec.toNat_shiftLeft, BitVec.toNat_ofNat, BitVec.toNat_ofNat, BitVec.toNat_ofNat, Nat.mod_eq_of_lt (show k < 2 ^ 64 by omega), Nat.shiftLeft_eq, Nat.mul_mod, Nat.mod_mod, ← Nat.mul_mod]
theorem wb_and {a b : Nat} (ha : a < 2 ^ 64) (hb : b < 2 ^ 64) : lN a &&& lN b = lN (a &&& b) := by
  apply wb_inj
  rw [Int64.toBitVec_and, wb_tb, wb_tb, wb_tb]
  apply BitVec.eq_of_toNat_eq
  rw [BitVec.toNat_and, BitVec.toNat_ofNat, BitVec.toNat_ofNat, BitVec.toNat_ofNat, Nat.mod_eq_of_lt ha, Nat.mod_eq_of_lt hb, Nat.mod_eq_of_lt (Nat.and_lt_two_pow _ hb)]
/-! ===== how many bits: the JDK's way, byte by byte ===== -/
def bc_h : List Nat → Nat
  | [] => 0
  | d :: t => d + 256 * bc_h t
theorem bc_and {a b m k : Nat} (ha : a < 256) (hm : m < 256) : (a + 256 * b) &&& (m + 256 * k) = (a &&& m) + 256 * (b &&& k) := by
  apply Nat.eq_of_testBit_eq
  intro i
  have h8 : (256 : Nat) = 2 ^ 8 := rfl
  have e : ∀ x y : Nat, x < 256 → (x + 256 * y).testBit i = if i < 8 then x.testBit i else y.testBit (i - 8) := fun x y hx => by
    rw [Nat.add_comm, h8, Nat.testBit_two_pow_mul_add y (by omega)]
  rw [Nat.testBit_and, e a b ha, e m k hm, e _ _ (Nat.lt_of_le_of_lt Nat.and_le_left ha), Nat.testBit_and, Nat.testBit_and]
  split <;> rfl
def bc_ok (l : List Nat) : Prop := ∀ d, d ∈ l → d < 256
theorem bc_ok1 {d : Nat} {l : List Nat} (h : bc_ok (d :: l)) : d < 256 ∧ bc_ok l := ⟨h d (List.mem_cons_self), fun e he => h e (List.mem_cons_of_mem _ he)⟩
def bc_r (l : List Nat) (m : Nat) : Nat := bc_h (l.map fun _ => m)
theorem bc_p {m : Nat} (hm : m < 256) : ∀ l, bc_ok l → bc_h l &&& bc_r l m = bc_h (l.map fun d => d &&& m)
  | [], _ => Nat.zero_and _
  | d :: l, h => by
    have h1 := bc_ok1 h
    show (d + 256 * bc_h l) &&& (m + 256 * bc_r l m) = (d &&& m) + 256 * bc_h (l.map fun d => d &&& m)
    rw [bc_and h1.1 hm, bc_p hm l h1.2]
theorem bc_1 : ∀ l, bc_ok l → (bc_h l / 2) &&& bc_r l 85 = bc_h (l.map fun d => (d / 2) &&& 85)
  | [], _ => rfl
  | d :: l, h => by
    have h1 := bc_ok1 h
    show ((d + 256 * bc_h l) / 2) &&& (85 + 256 * bc_r l 85) = ((d / 2) &&& 85) + 256 * bc_h (l.map fun d => (d / 2) &&& 85)
    have e : (d + 256 * bc_h l) / 2 = (d / 2 + 128 * (bc_h l % 2)) + 256 * (bc_h l / 2) := by omega
    have k : ∀ d : Fin 256, ∀ t : Fin 2, (d.val / 2 + 128 * t.val) &&& 85 = (d.val / 2) &&& 85 := by decide +kernel
    rw [e, bc_and (by omega) (by omega), bc_1 l h1.2, k ⟨d, h1.1⟩ ⟨bc_h l % 2, by omega⟩]
theorem bc_2 : ∀ l, bc_ok l → (bc_h l / 4) &&& bc_r l 51 = bc_h (l.map fun d => (d / 4) &&& 51)
  | [], _ => rfl
  | d :: l, h => by
    have h1 := bc_ok1 h
    show ((d + 256 * bc_h l) / 4) &&& (51 + 256 * bc_r l 51) = ((d / 4) &&& 51) + 256 * bc_h (l.map fun d => (d / 4) &&& 51)
    have e : (d + 256 * bc_h l) / 4 = (d / 4 + 64 * (bc_h l % 4)) + 256 * (bc_h l / 4) := by omega
    have k : ∀ d : Fin 256, ∀ t : Fin 4, (d.val / 4 + 64 * t.val) &&& 51 = (d.val / 4) &&& 51 := by decide +kernel
    rw [e, bc_and (by omega) (by omega), bc_2 l h1.2, k ⟨d, h1.1⟩ ⟨bc_h l % 4, by omega⟩]
theorem bc_sub : ∀ (l : List Nat) (f : Nat → Nat), (∀ d, d ∈ l → f d ≤ d) → bc_h l - bc_h (l.map f) = bc_h (l.map fun d => d - f d) ∧ bc_h (l.map f) ≤ bc_h l
  | [], _, _ => ⟨rfl, Nat.le_refl _⟩
  | d :: l, f, h => by
    have ih := bc_sub l f (fun e he => h e (List.mem_cons_of_mem _ he))
    have h1 := h d List.mem_cons_self
    show (d + 256 * bc_h l) - (f d + 256 * bc_h (l.map f)) = (d - f d) + 256 * bc_h (l.map fun d => d - f d) ∧ f d + 256 * bc_h (l.map f) ≤ d + 256 * bc_h l
    omega
theorem bc_add : ∀ (l : List Nat) (f g : Nat → Nat), bc_h (l.map f) + bc_h (l.map g) = bc_h (l.map fun d => f d + g d)
  | [], _, _ => rfl
  | d :: l, f, g => by
    have ih := bc_add l f g
    show (f d + 256 * bc_h (l.map f)) + (g d + 256 * bc_h (l.map g)) = (f d + g d) + 256 * bc_h (l.map fun d => f d + g d)
    omega
theorem bc_3 : ∀ l : List Nat, (∀ d, d ∈ l → d % 16 ≤ 4 ∧ d / 16 ≤ 4) → (bc_h l + bc_h l / 16) &&& bc_r l 15 = bc_h (l.map fun d => d / 16 + d % 16) ∧ bc_h l % 16 ≤ 4
  | [], _ => ⟨rfl, by decide⟩
  | d :: l, h => by
    have ih := bc_3 l (fun e he => h e (List.mem_cons_of_mem _ he))
    have h1 := h d List.mem_cons_self
    show ((d + 256 * bc_h l) + (d + 256 * bc_h l) / 16) &&& (15 + 256 * bc_r l 15) = (d / 16 + d % 16) + 256 * bc_h (l.map fun d => d / 16 + d % 16) ∧ (d + 256 * bc_h l) % 16 ≤ 4
    have e : (d + 256 * bc_h l) + (d + 256 * bc_h l) / 16 = (d + d / 16 + 16 * (bc_h l % 16)) + 256 * (bc_h l + bc_h l / 16) := by omega
    refine ⟨?_, by omega⟩
    have e2 : (d + d / 16 + 16 * (bc_h l % 16)) &&& 15 = d / 16 + d % 16 := by
      rw [show (15 : Nat) = 2 ^ 4 - 1 from rfl, Nat.and_two_pow_sub_one_eq_mod]; omega
    rw [e, bc_and (by omega) (by omega), ih.1, e2]
def bc_d (d : Nat) : Nat := let e := d - ((d / 2) &&& 85); let f := (e &&& 51) + ((e / 4) &&& 51); f / 16 + f % 16
theorem bc_dd : ∀ d : Fin 256, bc_d d.val = fb_ct (fun i => d.val.testBit i) 8 ∧ bc_d d.val ≤ 8 := by decide +kernel
theorem bc_e : ∀ d : Fin 256, (d.val / 2 &&& 85) ≤ d.val ∧ d.val - ((d.val / 2) &&& 85) < 256 ∧ (((d.val - ((d.val / 2) &&& 85)) &&& 51) + (((d.val - ((d.val / 2) &&& 85)) / 4) &&& 51)) % 16 ≤ 4 ∧ (((d.val - ((d.val / 2) &&& 85)) &&& 51) + (((d.val - ((d.val / 2) &&& 85)) / 4) &&& 51)) / 16 ≤ 4 := by decide +kernel
def bc_8 (n : Nat) : List Nat := [n % 256, n / 256 % 256, n / 65536 % 256, n / 16777216 % 256, n / 4294967296 % 256, n / 1099511627776 % 256, n / 281474976710656 % 256, n / 72057594037927936 % 256]
theorem bc_8h {n : Nat} (h : n < 18446744073709551616) : bc_h (bc_8 n) = n := by
  unfold bc_8
  simp only [bc_h]
  omega
theorem bc_8ok {n : Nat} : bc_ok (bc_8 n) := by
  intro d hd
  unfold bc_8 at hd
  simp only [List.mem_cons, List.not_mem_nil, or_false] at hd
  rcases hd with h | h | h | h | h | h | h | h <;> omega
theorem bc_dv {x r p M : Nat} (hp : 0 < p) (h : x = r + p * M) (hr : r < p) : x / p = M := by rw [h, Nat.add_mul_div_left _ _ hp, Nat.div_eq_of_lt hr, Nat.zero_add]
theorem bc_sum {a b c d e f g h : Nat} (h1 : a ≤ 8) (h2 : b ≤ 8) (h3 : c ≤ 8) (h4 : d ≤ 8) (h5 : e ≤ 8) (h6 : f ≤ 8) (h7 : g ≤ 8) (h8 : h ≤ 8) {n v4 v5 v6 : Nat} (hn : n = bc_h [a, b, c, d, e, f, g, h]) (e4 : v4 = n + n / 256) (e5 : v5 = v4 + v4 / 65536) (e6 : v6 = v5 + v5 / 4294967296) : v6 % 128 = a + b + c + d + e + f + g + h ∧ v6 < 18446744073709551616 := by
  simp only [bc_h] at hn
  have q1 : n / 256 = b + 256 * (c + 256 * (d + 256 * (e + 256 * (f + 256 * (g + 256 * h))))) := bc_dv (r := a) (by omega) (by omega) (by omega)
  rw [q1, hn] at e4
  clear q1 hn
  have q2 : v4 / 65536 = (c + d) + 256 * ((d + e) + 256 * ((e + f) + 256 * ((f + g) + 256 * ((g + h) + 256 * h)))) := bc_dv (r := (a + b) + 256 * (b + c)) (by omega) (by omega) (by omega)
  rw [q2, e4] at e5
  clear q2 e4
  have q3 : v5 / 4294967296 = ((e + f) + (g + h)) + 256 * (((f + g) + h) + 256 * ((g + h) + 256 * h)) := bc_dv (r := (a + b + c + d) + 256 * ((b + c + d + e) + 256 * ((c + d + e + f) + 256 * (d + e + f + g)))) (by omega) (by omega) (by omega)
  rw [q3, e5] at e6
  clear q3 e5
  have q4 : v6 = (a + b + c + d + e + f + g + h) + 128 * (v6 / 128) := by
    have : v6 = (a + b + c + d + e + f + g + h) + 128 * ((v6 - (a + b + c + d + e + f + g + h)) / 128) := by
      have q5 : ∃ M, v6 = (a + b + c + d + e + f + g + h) + 128 * M := ⟨2 * ((b + c + d + e + f + g + h) + 256 * ((c + d + e + f + g + h) + 256 * ((d + e + f + g + h) + 256 * ((e + f + g + h) + 256 * ((f + g + h) + 256 * ((g + h) + 256 * h)))))), by omega⟩
      obtain ⟨M, hM⟩ := q5
      clear e6
      omega
    clear e6
    omega
  refine ⟨?_, by omega⟩
  clear e6
  omega
theorem bc_n {n : Nat} (h : n < 18446744073709551616) : ∃ v1 v2 v3 v4 v5 v6, v1 = n - ((n / 2) &&& 6148914691236517205) ∧ v2 = (v1 &&& 3689348814741910323) + ((v1 / 4) &&& 3689348814741910323) ∧ v3 = (v2 + v2 / 16) &&& 1085102592571150095 ∧ v4 = v3 + v3 / 256 ∧ v5 = v4 + v4 / 65536 ∧ v6 = v5 + v5 / 4294967296 ∧ ((n / 2) &&& 6148914691236517205) ≤ n ∧ v2 < 18446744073709551616 ∧ v2 + v2 / 16 < 18446744073709551616 ∧ v6 < 18446744073709551616 ∧ v6 % 128 = bc_d (n % 256) + bc_d (n / 256 % 256) + bc_d (n / 65536 % 256) + bc_d (n / 16777216 % 256) + bc_d (n / 4294967296 % 256) + bc_d (n / 1099511627776 % 256) + bc_d (n / 281474976710656 % 256) + bc_d (n / 72057594037927936 % 256) := by
  have k1 : bc_r (bc_8 n) 85 = 6148914691236517205 := by unfold bc_r bc_8; simp only [List.map_cons, List.map_nil, bc_h]
  have k2 : bc_r (bc_8 n) 51 = 3689348814741910323 := by unfold bc_r bc_8; simp only [List.map_cons, List.map_nil, bc_h]
  have k3 : bc_r (bc_8 n) 15 = 1085102592571150095 := by unfold bc_r bc_8; simp only [List.map_cons, List.map_nil, bc_h]
  have r : ∀ (f : Nat → Nat) m, bc_r ((bc_8 n).map f) m = bc_r (bc_8 n) m := fun f m => rfl
  have a1 : (n / 2) &&& 6148914691236517205 = bc_h ((bc_8 n).map fun d => (d / 2) &&& 85) := by rw [← k1, ← bc_1 _ bc_8ok, bc_8h h]
  have s1 := bc_sub (bc_8 n) (fun d => (d / 2) &&& 85) (fun d hd => (bc_e ⟨d, bc_8ok d hd⟩).1)
  have a2 : n - ((n / 2) &&& 6148914691236517205) = bc_h ((bc_8 n).map fun d => d - ((d / 2) &&& 85)) := by
    rw [a1, ← s1.1, bc_8h h]
  have le1 : ((n / 2) &&& 6148914691236517205) ≤ n := by
    have := s1.2
    rw [bc_8h h] at this
    rw [a1]; exact this
  have ok2 : bc_ok ((bc_8 n).map fun d => d - ((d / 2) &&& 85)) := by
    intro d hd
    obtain ⟨e, he, rfl⟩ := List.mem_map.mp hd
    exact (bc_e ⟨e, bc_8ok e he⟩).2.1
  have a3 : ((n - ((n / 2) &&& 6148914691236517205)) &&& 3689348814741910323) + (((n - ((n / 2) &&& 6148914691236517205)) / 4) &&& 3689348814741910323) = bc_h ((bc_8 n).map fun d => ((d - ((d / 2) &&& 85)) &&& 51) + (((d - ((d / 2) &&& 85)) / 4) &&& 51)) := by
    rw [a2, ← k2, ← r (fun d => d - ((d / 2) &&& 85)) 51, bc_p (by omega) _ ok2, bc_2 _ ok2, List.map_map, List.map_map, bc_add]
    rfl
  have b3 := bc_3 ((bc_8 n).map fun d => ((d - ((d / 2) &&& 85)) &&& 51) + (((d - ((d / 2) &&& 85)) / 4) &&& 51)) (fun d hd => by
    obtain ⟨e, he, rfl⟩ := List.mem_map.mp hd
    exact (bc_e ⟨e, bc_8ok e he⟩).2.2)
  have lt2 : bc_h ((bc_8 n).map fun d => ((d - ((d / 2) &&& 85)) &&& 51) + (((d - ((d / 2) &&& 85)) / 4) &&& 51)) < 5000000000000000000 := by
    have q : ∀ d, d ∈ bc_8 n → (((d - ((d / 2) &&& 85)) &&& 51) + (((d - ((d / 2) &&& 85)) / 4) &&& 51)) ≤ 68 := fun d hd => by
      have := (bc_e ⟨d, bc_8ok d hd⟩).2.2
      simp only at this
      omega
    unfold bc_8 at q ⊢
    simp only [List.mem_cons, List.not_mem_nil, or_false, forall_eq_or_imp, forall_eq] at q
    simp only [List.map_cons, List.map_nil, bc_h]
    obtain ⟨q1, q2, q3, q4, q5, q6, q7, q8⟩ := q
    omega
  have a4 := b3.1
  rw [r, k3, List.map_map] at a4
  have a5 : bc_h ((bc_8 n).map ((fun d => d / 16 + d % 16) ∘ fun d => ((d - ((d / 2) &&& 85)) &&& 51) + (((d - ((d / 2) &&& 85)) / 4) &&& 51))) = bc_h ((bc_8 n).map bc_d) := rfl
  rw [a5] at a4
  refine ⟨_, _, _, _, _, _, rfl, rfl, rfl, rfl, rfl, rfl, le1, ?_, ?_, ?_⟩
  · rw [a3]; omega
  · rw [a3]; omega
  · have fin := bc_sum (n := bc_h ((bc_8 n).map bc_d)) (bc_dd ⟨n % 256, by omega⟩).2 (bc_dd ⟨n / 256 % 256, by omega⟩).2 (bc_dd ⟨n / 65536 % 256, by omega⟩).2 (bc_dd ⟨n / 16777216 % 256, by omega⟩).2 (bc_dd ⟨n / 4294967296 % 256, by omega⟩).2 (bc_dd ⟨n / 1099511627776 % 256, by omega⟩).2 (bc_dd ⟨n / 281474976710656 % 256, by omega⟩).2 (bc_dd ⟨n / 72057594037927936 % 256, by omega⟩).2 rfl rfl rfl rfl
    rw [a3, a4]
    exact ⟨fin.2, fin.1⟩
theorem bc_by {n k : Nat} (hk : 8 * k + 8 ≤ 64) : fb_ct (fun i => ct (lN n) (8 * k + i)) 8 = fb_ct (fun i => (n / 2 ^ (8 * k) % 256).testBit i) 8 := by
  refine fb_ct_cong (fun i hi => ?_)
  show (BitVec.ofNat 64 n).getLsbD (8 * k + i) = _
  rw [BitVec.getLsbD_ofNat, decide_eq_true (by omega : 8 * k + i < 64), Bool.true_and, show (256 : Nat) = 2 ^ 8 from rfl, Nat.testBit_mod_two_pow, decide_eq_true hi, Bool.true_and, Nat.testBit_div_two_pow, Nat.add_comm]
theorem bc_tot {n : Nat} : fb_ct (ct (lN n)) 64 = bc_d (n % 256) + bc_d (n / 256 % 256) + bc_d (n / 65536 % 256) + bc_d (n / 16777216 % 256) + bc_d (n / 4294967296 % 256) + bc_d (n / 1099511627776 % 256) + bc_d (n / 281474976710656 % 256) + bc_d (n / 72057594037927936 % 256) := by
  have s : ∀ k, fb_ct (ct (lN n)) (8 * k + 8) = fb_ct (ct (lN n)) (8 * k) + fb_ct (fun i => ct (lN n) (8 * k + i)) 8 := fun k => fb_ct_split _ _ _
  have e : ∀ k p, 8 * k + 8 ≤ 64 → 2 ^ (8 * k) = p → fb_ct (fun i => ct (lN n) (8 * k + i)) 8 = bc_d (n / p % 256) := fun k p hk hp => by
    rw [bc_by hk, hp, (bc_dd ⟨n / p % 256, by omega⟩).1]
  have t7 := s 7; have t6 := s 6; have t5 := s 5; have t4 := s 4; have t3 := s 3; have t2 := s 2; have t1 := s 1; have t0 := s 0
  rw [e 7 72057594037927936 (by omega) (by decide)] at t7
  rw [e 6 281474976710656 (by omega) (by decide)] at t6
  rw [e 5 1099511627776 (by omega) (by decide)] at t5
  rw [e 4 4294967296 (by omega) (by decide)] at t4
  rw [e 3 16777216 (by omega) (by decide)] at t3
  rw [e 2 65536 (by omega) (by decide)] at t2
  rw [e 1 256 (by omega) (by decide)] at t1
  rw [e 0 1 (by omega) (by decide), Nat.div_one] at t0
  simp only [Nat.reduceMul, Nat.reduceAdd] at t0 t1 t2 t3 t4 t5 t6 t7
  have t00 : fb_ct (ct (lN n)) 0 = 0 := rfl
  omega
theorem l_t32 {a : Nat} : Int64.toInt32 (lN a) = nI a := Int32.toBitVec.inj (by
  show (BitVec.ofNat 64 a).signExtend 32 = BitVec.ofNat 32 a
  rw [BitVec.signExtend_eq_setWidth_of_le _ (by omega)]
  apply BitVec.eq_of_toNat_eq
  rw [BitVec.toNat_setWidth, BitVec.toNat_ofNat, BitVec.toNat_ofNat]
  omega)
theorem i_mod {a k m : Nat} (hm : m = 2 ^ k - 1) : nI a &&& nI m = nI (a % 2 ^ k) := by
  rw [i_and, hm, Nat.and_two_pow_sub_one_eq_mod]
theorem sp_bc {c : Int64} {z : tq_S} {Q : tq_O → tq_S → Prop} (k : Q (.inl (some (.int (nI (fb_ct (ct c) 64))))) z) : wm_J13_bitCount_95d88 c z Q := by
  obtain ⟨n, hn, rfl⟩ := wb_of c
  have hn' : n < 18446744073709551616 := hn
  obtain ⟨w1, w2, w3, w4, w5, w6, f1, f2, f3, f4, f5, f6, le1, b2, b3, b6, tot⟩ := bc_n hn'
  have d2 : w1 ≤ n := by omega
  have lt1 : n / 2 < 2 ^ 64 := by omega
  unfold wm_J13_bitCount_95d88
  intro v1 e1
  rw [i_1, wb_shr hn (by omega), show (6148914691236517205 : Int64) = lN 6148914691236517205 from rfl, wb_and (by omega) (by omega), l_sub le1, ← f1] at e1
  intro v2 e2
  rw [e1, i_2, wb_shr (by omega) (by omega), show (3689348814741910323 : Int64) = lN 3689348814741910323 from rfl, wb_and (by omega) (by omega), wb_and (by omega) (by omega), l_add, show 2 ^ 2 = 4 from rfl, ← f2] at e2
  intro v3 e3
  rw [e2, i_4, wb_shr (by omega) (by omega), show (1085102592571150095 : Int64) = lN 1085102592571150095 from rfl, l_add, show 2 ^ 4 = 16 from rfl, wb_and (by omega) (by omega), ← f3] at e3
  have b3' : w3 < 2 ^ 64 := by omega
  intro v4 e4
  rw [e3, i_8, wb_shr b3' (by omega), l_add, show 2 ^ 8 = 256 from rfl, ← f4] at e4
  intro v5 e5
  rw [e4, i_16, wb_shr (by omega) (by omega), l_add, show 2 ^ 16 = 65536 from rfl, ← f5] at e5
  intro v6 e6
  rw [e5, i_32, wb_shr (by omega) (by omega), l_add, show 2 ^ 32 = 4294967296 from rfl, ← f6] at e6
  rw [e6, l_t32, show (127 : Int32) = nI 127 from rfl, i_mod (k := 7) rfl, show 2 ^ 7 = 128 from rfl, tot, ← bc_tot]
  exact k
