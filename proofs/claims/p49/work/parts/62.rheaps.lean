/-! ===== heaps: the reference's factors ===== -/
def fcr : Nat → Nat → Nat → Nat → Nat
  | 0, _, _, _ => 0
  | f + 1, p, r, x => if r < p then 0 else if r % p = 0 then (if x = p then 1 else 0) + fcr f p (r / p) x else fcr f (p + 1) r x
def ve (n x : Nat) : Nat := fcr 60 2 n x
/-- the product of the powers -/
def hpr (E : Nat → Int) : Nat → Nat
  | 0 => 1
  | p + 1 => hpr E p * (p + 2) ^ (E (p + 2)).toNat
section RHEAPS
variable {z : tq_S} {Q : tq_O → tq_S → Prop} {A B C : Int32}
end RHEAPS
