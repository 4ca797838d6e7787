/-! ===== rows of ends, two bits each, and their mates ===== -/
def pg (s k : Nat) : Nat := s / 2 ^ (2 * k) % 2 ^ 2
/-- an end put at a place -/
def putE (s j p : Nat) : Nat := (s ^^^ (s &&& 3 * 2 ^ (2 * j))) ||| p * 2 ^ (2 * j)
def endv (p : Nat) : Int := if p = 1 then 1 else if p = 2 then -1 else 0
/-- how many ends are open ahead of a place -/
def dd (s : Nat) : Nat → Int
  | 0 => 0
  | i + 1 => dd s i + endv (pg s i)
