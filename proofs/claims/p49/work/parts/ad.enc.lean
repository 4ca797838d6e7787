section ENC
def lfs (l : Nat → Nat) : Nat := l 0 + 16 * (l 1 + 16 * (l 2 + 16 * (l 3 + 16 * (l 4 + 16 * l 5))))
/-- a state: the cells that are covered, the motions, the pieces left, the motion -/
def encN (c g : Nat) (l : Nat → Nat) (mo : Nat) : Nat := c + 2 ^ 24 * g + 2 ^ 32 * lfs l + 2 ^ 56 * mo
def l15 (l : Nat → Nat) : Prop := ∀ k, k < 6 → l k < 16
theorem lfs_lt {l : Nat → Nat} (h : l15 l) : lfs l < 2 ^ 24 := by
  have h0 := h 0 (by omega)
  have h1 := h 1 (by omega)
  have h2 := h 2 (by omega)
  have h3 := h 3 (by omega)
  have h4 := h 4 (by omega)
  have h5 := h 5 (by omega)
  unfold lfs
  omega
theorem encN_lt {c g mo : Nat} {l : Nat → Nat} (hc : c < 2 ^ 24) (hg : g < 2 ^ 8) (hl : l15 l) (hm : mo < 8) : encN c g l mo < 2 ^ 59 := by
  have := lfs_lt hl
  unfold encN
  omega
theorem encN_c {c g mo : Nat} {l : Nat → Nat} (hc : c < 2 ^ 24) : encN c g l mo % 2 ^ 24 = c := by
  unfold encN
  omega
theorem encN_m {c g mo : Nat} {l : Nat → Nat} (hc : c < 2 ^ 24) (hg : g < 2 ^ 8) (hl : l15 l) : encN c g l mo / 2 ^ 56 = mo := by
  have := lfs_lt hl
  unfold encN
  omega
theorem k6_ {k : Nat} (hk : k < 6) : k = 0 ∨ k = 1 ∨ k = 2 ∨ k = 3 ∨ k = 4 ∨ k = 5 := by omega
theorem encN_l {c g mo k : Nat} {l : Nat → Nat} (hc : c < 2 ^ 24) (hg : g < 2 ^ 8) (hl : l15 l) (hk : k < 6) : encN c g l mo / 2 ^ (32 + 4 * k) % 16 = l k := by
  have h0 := hl 0 (by omega)
  have h1 := hl 1 (by omega)
  have h2 := hl 2 (by omega)
  have h3 := hl 3 (by omega)
  have h4 := hl 4 (by omega)
  have h5 := hl 5 (by omega)
  unfold encN lfs
  rcases k6_ hk with rfl | rfl | rfl | rfl | rfl | rfl
  · rw [show 2 ^ (32 + 4 * 0) = 4294967296 from rfl]; omega
  · rw [show 2 ^ (32 + 4 * 1) = 68719476736 from rfl]; omega
  · rw [show 2 ^ (32 + 4 * 2) = 1099511627776 from rfl]; omega
  · rw [show 2 ^ (32 + 4 * 3) = 17592186044416 from rfl]; omega
  · rw [show 2 ^ (32 + 4 * 4) = 281474976710656 from rfl]; omega
  · rw [show 2 ^ (32 + 4 * 5) = 4503599627370496 from rfl]; omega
def lsub (l : Nat → Nat) (k t : Nat) : Nat → Nat := fun j => if j = k then l j - t else l j
theorem lsub_15 {l : Nat → Nat} {k t : Nat} (h : l15 l) : l15 (lsub l k t) := fun j hj => by
  have := h j hj
  unfold lsub
  split <;> omega
theorem encN_sub {c g mo k t : Nat} {l : Nat → Nat} (hk : k < 6) (ht : t ≤ l k) : encN c g l mo - 2 ^ (32 + 4 * k) * t = encN c g (lsub l k t) mo ∧ 2 ^ (32 + 4 * k) * t ≤ encN c g l mo := by
  unfold encN lfs lsub
  rcases k6_ hk with rfl | rfl | rfl | rfl | rfl | rfl
  · rw [show 2 ^ (32 + 4 * 0) = 4294967296 from rfl]
    simp only [if_pos, if_neg, show ¬ (1 = 0) by decide, show ¬ (2 = 0) by decide, show ¬ (3 = 0) by decide, show ¬ (4 = 0) by decide, show ¬ (5 = 0) by decide, if_false, if_true]
    omega
  · rw [show 2 ^ (32 + 4 * 1) = 68719476736 from rfl]
    simp only [show ¬ (0 = 1) by decide, show ¬ (2 = 1) by decide, show ¬ (3 = 1) by decide, show ¬ (4 = 1) by decide, show ¬ (5 = 1) by decide, if_false, if_true]
    omega
  · rw [show 2 ^ (32 + 4 * 2) = 1099511627776 from rfl]
    simp only [show ¬ (0 = 2) by decide, show ¬ (1 = 2) by decide, show ¬ (3 = 2) by decide, show ¬ (4 = 2) by decide, show ¬ (5 = 2) by decide, if_false, if_true]
    omega
  · rw [show 2 ^ (32 + 4 * 3) = 17592186044416 from rfl]
    simp only [show ¬ (0 = 3) by decide, show ¬ (1 = 3) by decide, show ¬ (2 = 3) by decide, show ¬ (4 = 3) by decide, show ¬ (5 = 3) by decide, if_false, if_true]
    omega
  · rw [show 2 ^ (32 + 4 * 4) = 281474976710656 from rfl]
    simp only [show ¬ (0 = 4) by decide, show ¬ (1 = 4) by decide, show ¬ (2 = 4) by decide, show ¬ (3 = 4) by decide, show ¬ (5 = 4) by decide, if_false, if_true]
    omega
  · rw [show 2 ^ (32 + 4 * 5) = 4503599627370496 from rfl]
    simp only [show ¬ (0 = 5) by decide, show ¬ (1 = 5) by decide, show ¬ (2 = 5) by decide, show ¬ (3 = 5) by decide, show ¬ (4 = 5) by decide, if_false, if_true]
    omega
theorem encN_e {c g mo : Nat} {l l' : Nat → Nat} (h : ∀ k, k < 6 → l k = l' k) : encN c g l mo = encN c g l' mo := by
  unfold encN lfs
  rw [h 0 (by omega), h 1 (by omega), h 2 (by omega), h 3 (by omega), h 4 (by omega), h 5 (by omega)]
/-- the bits of a state -/
theorem encN_t {c g mo i : Nat} {l : Nat → Nat} (hc : c < 2 ^ 24) (hg : g < 2 ^ 8) : (encN c g l mo).testBit i = if i < 24 then c.testBit i else if i < 32 then g.testBit (i - 24) else (lfs l + 2 ^ 24 * mo).testBit (i - 32) := by
  unfold encN
  rw [show c + 2 ^ 24 * g + 2 ^ 32 * lfs l + 2 ^ 56 * mo = 2 ^ 24 * (2 ^ 8 * (lfs l + 2 ^ 24 * mo) + g) + c by omega, Nat.testBit_two_pow_mul_add _ hc]
  by_cases q : i < 24
  · rw [if_pos q, if_pos q]
  · rw [if_neg q, if_neg q, Nat.testBit_two_pow_mul_add _ hg]
    by_cases q2 : i < 32
    · rw [if_pos q2, if_pos (by omega)]
    · rw [if_neg q2, if_neg (by omega), show i - 24 - 8 = i - 32 by omega]
theorem pcE_t {x : plc} (hx : pcb x) {i : Nat} : (pcE x).testBit i = if i < 24 then x.2.2.1.testBit i else if i < 32 then x.2.2.2.testBit (i - 24) else x.2.1.testBit (i - 32) := by
  obtain ⟨h0, h1, h2, h3⟩ := hx
  unfold pcE
  rw [show 2 ^ 32 * x.2.1 + 2 ^ 24 * x.2.2.2 + x.2.2.1 = 2 ^ 24 * (2 ^ 8 * x.2.1 + x.2.2.2) + x.2.2.1 by omega, Nat.testBit_two_pow_mul_add _ h2]
  by_cases q : i < 24
  · rw [if_pos q, if_pos q]
  · rw [if_neg q, if_neg q, Nat.testBit_two_pow_mul_add _ h3]
    by_cases q2 : i < 32
    · rw [if_pos q2, if_pos (by omega)]
    · rw [if_neg q2, if_neg (by omega), show i - 24 - 8 = i - 32 by omega]
theorem motk : ∀ i : Fin 64, ct (4278190080 : Int64) i.val = (decide (24 ≤ i.val) && decide (i.val < 32)) := by decide +kernel
/-- what putting a place makes of a state, but for the pieces left -/
theorem enc_put {c g mo : Nat} {l : Nat → Nat} {y : plc} (hc : c < 2 ^ 24) (hg : g < 2 ^ 8) (hl : l15 l) (hm : mo < 8) (hy : pcb y) : ((lN (encN c g l mo)) &&& (((4278190080 : Int64) &&& ((lN (pcE y)) ^^^ (-1 : Int64))) ^^^ (-1 : Int64))) ||| ((lN (pcE y)) &&& (16777215 : Int64)) = lN (encN (c ||| y.2.2.1) (g &&& y.2.2.2) l mo) := by
  have hy2 := hy
  obtain ⟨h0, h1, h2, h3⟩ := hy2
  have co : c ||| y.2.2.1 < 2 ^ 24 := Nat.or_lt_two_pow hc h2
  have ga : g &&& y.2.2.2 < 2 ^ 8 := Nat.and_lt_two_pow _ h3
  refine ct_ext fun i hi => ?_
  rw [ct_or, ct_and, ct_and, ct_not, ct_and, ct_not, motk ⟨i, hi⟩, cells_k ⟨i, hi⟩, ct_lN, ct_lN, ct_lN, decide_eq_true hi, Bool.true_and, Bool.true_and, Bool.true_and, Bool.true_and, Bool.true_and, encN_t hc hg, encN_t co ga, pcE_t hy]
  dsimp only
  by_cases q : i < 24
  · rw [if_pos q, if_pos q, if_pos q, decide_eq_true q, decide_eq_false (show ¬ 24 ≤ i by omega), Nat.testBit_or]
    simp
  · rw [if_neg q, if_neg q, if_neg q, decide_eq_false q, decide_eq_true (show 24 ≤ i by omega), Bool.and_false, Bool.or_false, Bool.true_and]
    by_cases q2 : i < 32
    · rw [if_pos q2, if_pos q2, if_pos q2, decide_eq_true q2, Nat.testBit_and, Bool.true_and, Bool.not_not]
    · rw [if_neg q2, if_neg q2, if_neg q2, decide_eq_false q2, Bool.false_and, Bool.not_false, Bool.and_true]
end ENC
