theorem hps_lt {a b c : Nat} (ha : a ≤ 8) (hb : b ≤ 8) (hc : c ≤ 8) : hps a b c < 1000000000 ^ 34 := by
  have d : ∀ j i n, hdJ i j n ≤ n := by
    intro j
    induction j with
    | zero => intro i n; exact Nat.le_refl _
    | succ j ih => intro i n; exact Nat.le_trans (Nat.div_le_self _ _) (ih i n)
  have d2 : ∀ i n, hdI b n i ≤ n := by
    intro i
    induction i with
    | zero => intro n; exact Nat.le_refl _
    | succ i ih => intro n; exact Nat.le_trans (d b i _) (ih n)
  have h1 := hpI_le (b := b) (c := c) hb hc a ha
  have h2 := hp_24 (k := b * a) (Nat.mul_le_mul hb ha)
  have h3 := d2 a (hpI b c a)
  refine Nat.lt_of_le_of_lt (Nat.le_trans h3 h1) (Nat.lt_trans h2 (by decide +kernel))
section RHEAPS2
variable {z : tq_S} {Q : tq_O → tq_S → Prop} {A B C : Int32}
end RHEAPS2
