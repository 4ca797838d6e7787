section SRC
/-- how many cells, from the first one on, are covered -/
def tro (c : Nat) : Nat := fb_ct (fun i => decide (∀ j, j < i + 1 → c.testBit j = true)) 24
def pop (c : Nat) : Nat := fb_ct (fun i => c.testBit i) 24
theorem tro_e {c o : Nat} (h1 : ∀ j, j < o → c.testBit j = true) (h2 : o < 24 → c.testBit o = false) (ho : o ≤ 24) : tro c = o := by
  unfold tro
  obtain ⟨d, hd⟩ : ∃ d, 24 = o + d := ⟨24 - o, by omega⟩
  rw [hd, fb_ct_split]
  have e1 : fb_ct (fun i => decide (∀ j, j < i + 1 → c.testBit j = true)) o = o := fb_ct_all.mpr (fun k hk => decide_eq_true (fun j hj => h1 j (by omega)))
  have e2 : fb_ct (fun i => decide (∀ j, j < o + i + 1 → c.testBit j = true)) d = 0 := fb_ct_zero.mpr (fun k hk => decide_eq_false (fun u => by
    have := u o (by omega)
    rw [h2 (by omega)] at this; cases this))
  rw [e1, e2]; rfl
theorem tro_ex (c : Nat) : ∃ o, o ≤ 24 ∧ tro c = o ∧ (∀ j, j < o → c.testBit j = true) ∧ (o < 24 → c.testBit o = false) := by
  by_cases q : ∃ i, i < 24 ∧ (!c.testBit i) = true
  · obtain ⟨i, i1, i2⟩ := q
    obtain ⟨k, k1, k2, k3⟩ := ct_first (f := fun b => !c.testBit b) i i2
    have k2 : c.testBit k = false := by simpa using k2
    have k3 : ∀ j, j < k → c.testBit j = true := fun j hj => by simpa using k3 j hj
    exact ⟨k, by omega, tro_e k3 (fun _ => k2) (by omega), k3, fun _ => k2⟩
  · have all : ∀ j, j < 24 → c.testBit j = true := fun j hj => by
      cases e : c.testBit j
      · exact absurd ⟨j, hj, by rw [e]; rfl⟩ q
      · rfl
    exact ⟨24, Nat.le_refl _, tro_e all (fun u => absurd u (by omega)) (Nat.le_refl _), all, fun u => absurd u (by omega)⟩
theorem pop_n {c n : Nat} (hc : c < 2 ^ n) (hn : n ≤ 24) : pop c = fb_ct (fun i => c.testBit i) n := by
  unfold pop
  obtain ⟨d, hd⟩ : ∃ d, 24 = n + d := ⟨24 - n, by omega⟩
  rw [hd, fb_ct_split]
  have : fb_ct (fun k => c.testBit (n + k)) d = 0 := fb_ct_zero.mpr (fun k hk => Nat.testBit_lt_two_pow (Nat.lt_of_lt_of_le hc (Nat.pow_le_pow_right (by decide) (by omega))))
  rw [this]; rfl
theorem pop_le {c n : Nat} (hc : c < 2 ^ n) (hn : n ≤ 24) : pop c ≤ n := by
  rw [pop_n hc hn]; exact fb_ct_le _ _
theorem pop_full {c n : Nat} (hc : c < 2 ^ n) (hn : n ≤ 24) (h : n ≤ pop c) : tro c = n := by
  rw [pop_n hc hn] at h
  have := fb_ct_le (fun i => c.testBit i) n
  have all := fb_ct_all.mp (show fb_ct (fun i => c.testBit i) n = n by omega)
  exact tro_e all (fun _ => Nat.testBit_lt_two_pow hc) hn
theorem pop_or {a b : Nat} (h : a &&& b = 0) : pop (a ||| b) = pop a + pop b := by
  unfold pop
  rw [← fb_ct_or (p := fun i => a.testBit i) (q := fun i => b.testBit i) (fun k _ u => by
    have e : (a &&& b).testBit k = true := by rw [Nat.testBit_and, u.1, u.2]; rfl
    rw [h, Nat.zero_testBit] at e; cases e)]
  exact fb_ct_cong (fun k _ => Nat.testBit_or a b k)
/-- the ways on from a state: its covered cells are its low bits; T puts a place; W is the worth of an end -/
def sr (n P : Nat) (F : Nat → Nat) (T : Nat → Nat → Option Nat) (W : Nat → Nat) : Nat → Nat → Nat
  | 0, e => if n ≤ tro (e % 2 ^ 24) then W e else 0
  | f + 1, e => if n ≤ tro (e % 2 ^ 24) then W e else fb_sm (fun i => if F i = tro (e % 2 ^ 24) then (match T e i with | none => 0 | some e' => sr n P F T W f e') else 0) P
/-- each place put covers three cells at the least -/
def tgd (n P : Nat) (T : Nat → Nat → Option Nat) (G : Nat → Prop) : Prop := (∀ e, G e → e < 2 ^ 60 ∧ e % 2 ^ 24 < 2 ^ n) ∧ ∀ e i e', G e → i < P → T e i = some e' → G e' ∧ pop (e % 2 ^ 24) + 3 ≤ pop (e' % 2 ^ 24)
theorem sr_st {n P : Nat} {F : Nat → Nat} {T : Nat → Nat → Option Nat} {W : Nat → Nat} {G : Nat → Prop} (hn : n ≤ 24) (hT : tgd n P T G) : ∀ (f f' e : Nat), G e → n ≤ pop (e % 2 ^ 24) + 3 * f → f ≤ f' → sr n P F T W f e = sr n P F T W f' e
  | 0, 0, e, _, _, _ => rfl
  | 0, f' + 1, e, hg, hp, _ => by
    have full := pop_full (hT.1 e hg).2 hn (by omega)
    have c : n ≤ tro (e % 2 ^ 24) := by omega
    unfold sr
    rw [if_pos c, if_pos c]
  | f + 1, 0, e, _, _, h => absurd h (by omega)
  | f + 1, f' + 1, e, hg, hp, h => by
    have ih := sr_st (F := F) (W := W) hn hT f f'
    unfold sr
    by_cases c : n ≤ tro (e % 2 ^ 24)
    · rw [if_pos c, if_pos c]
    · rw [if_neg c, if_neg c]
      refine fb_sm_cong (fun i hi => ?_)
      by_cases u : F i = tro (e % 2 ^ 24)
      · rw [if_pos u, if_pos u]
        cases t : T e i with
        | none => rfl
        | some e' =>
          obtain ⟨g1, g2⟩ := hT.2 e i e' hg hi t
          exact ih e' g1 (by omega) (by omega)
      · rw [if_neg u, if_neg u]
end SRC
section BIT
variable {z : tq_S} {Q : tq_O → tq_S → Prop}
theorem l_succ (a : Int64) : a + 1 = -(a ^^^ (-1 : Int64)) := Int64.toBitVec.inj (by
  have e : ((-1 : Int64)).toBitVec = BitVec.allOnes 64 := by decide +kernel
  show a.toBitVec + (1 : Int64).toBitVec = -(a.toBitVec ^^^ (-1 : Int64).toBitVec)
  rw [e, BitVec.xor_allOnes, BitVec.neg_eq_not_add, BitVec.not_not]
  rfl)
theorem ct_tro (a : Int64) {i : Nat} (hi : i < 64) : ct (a &&& ((a + 1) ^^^ (-1 : Int64))) i = decide (∀ j, j < i + 1 → ct a j = true) := by
  rw [ct_and, ct_not, decide_eq_true hi, Bool.true_and, l_succ, ct_ng _ hi, ct_not, decide_eq_true hi, Bool.true_and]
  have ex : (∃ j, j < i ∧ ct (a ^^^ (-1 : Int64)) j = true) ↔ ∃ j, j < i ∧ ct a j = false := by
    constructor
    · rintro ⟨j, hj, e⟩
      rw [ct_not, decide_eq_true (by omega), Bool.true_and] at e
      exact ⟨j, hj, by simpa using e⟩
    · rintro ⟨j, hj, e⟩
      exact ⟨j, hj, by rw [ct_not, e, decide_eq_true (by omega)]; rfl⟩
  by_cases q : ∃ j, j < i ∧ ct a j = false
  · rw [decide_eq_true (ex.mpr q)]
    obtain ⟨j, hj, e⟩ := q
    rw [decide_eq_false (fun u => by rw [u j (by omega)] at e; cases e)]
    cases ct a i <;> rfl
  · rw [decide_eq_false (fun u => q (ex.mp u))]
    have all : ∀ j, j < i → ct a j = true := fun j hj => by
      cases e : ct a j
      · exact absurd ⟨j, hj, e⟩ q
      · rfl
    cases e : ct a i
    · rw [decide_eq_false (fun u => by rw [u i (by omega)] at e; cases e)]; rfl
    · rw [decide_eq_true (fun j hj => by
        by_cases x : j = i
        · rw [x]; exact e
        · exact all j (by omega))]; rfl
theorem tb_mod {e i : Nat} (hi : i < 24) : (e % 2 ^ 24).testBit i = e.testBit i := by
  rw [Nat.testBit_mod_two_pow, decide_eq_true hi, Bool.true_and]
theorem sq_firstOpen {e : Nat} (kk : Q (.inl (some (.int (nI (tro (e % 2 ^ 24)))))) z) : wm_X4_firstOpen (lN e) z Q := by
  unfold wm_X4_firstOpen
  refine sp_bc ⟨_, rfl, ?_⟩
  have : fb_ct (ct ((lN e &&& ((lN e + 1) ^^^ (-1 : Int64))) &&& (16777215 : Int64))) 64 = tro (e % 2 ^ 24) := by
    unfold tro
    rw [show (64 : Nat) = 24 + 40 from rfl, fb_ct_split]
    have e2 : fb_ct (fun k => ct ((lN e &&& ((lN e + 1) ^^^ (-1 : Int64))) &&& (16777215 : Int64)) (24 + k)) 40 = 0 := fb_ct_zero.mpr (fun k hk => by
      rw [ct_and, cells_k ⟨24 + k, by omega⟩, decide_eq_false (show ¬ 24 + k < 24 by omega), Bool.and_false])
    rw [e2, Nat.add_zero]
    refine fb_ct_cong (fun i hi => ?_)
    rw [ct_and, cells_k ⟨i, by omega⟩, decide_eq_true (show i < 24 from hi), Bool.and_true, ct_tro _ (by omega)]
    refine decide_eq_decide.mpr ⟨fun u j hj => ?_, fun u j hj => ?_⟩
    · have := u j hj
      rw [ct_lN, decide_eq_true (by omega), Bool.true_and] at this
      rw [tb_mod (by omega)]; exact this
    · have := u j hj
      rw [tb_mod (by omega)] at this
      rw [ct_lN, decide_eq_true (by omega), Bool.true_and]; exact this
  rw [this]; exact kk
theorem l_i32 (n : Nat) : Int64.toInt32 (lN n) = nI n := by
  refine ib_ext (fun i hi => ?_)
  rw [ib_l _ _ hi, ct_lN, ib_n, decide_eq_true hi, decide_eq_true (by omega : i < 64)]
theorem l_slot (x : Int64) : ∃ k, k < 2048 ∧ Int64.toInt32 (((Int64.toUInt64 x) >>> ((Int32.toInt64 (53 : Int32)).toUInt64 &&& Int64.toUInt64 63)).toInt64) = nI k := by
  have hx : x = lN x.toBitVec.toNat := ct_ext fun i hi => by
    rw [ct_lN, decide_eq_true hi, Bool.true_and]; rfl
  have lt := x.toBitVec.isLt
  refine ⟨x.toBitVec.toNat / 2 ^ 53, by omega, ?_⟩
  rw [← l_i32]
  congr 1
  refine ct_ext fun i hi => ?_
  rw [show (53 : Int32) = nI 53 from rfl, ct_shr _ i (by omega), ct_lN, decide_eq_true hi, Bool.true_and, Nat.testBit_div_two_pow, Nat.add_comm i 53]
  rfl
end BIT
