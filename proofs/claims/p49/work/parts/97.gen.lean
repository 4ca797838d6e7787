def isR (s k m : Nat) : Prop := k < m ∧ pg s m = 2 ∧ dd s (m + 1) = dd s k ∧ ∀ i, k < i → i ≤ m → dd s k + 1 ≤ dd s i
def isL (s k m : Nat) : Prop := m < k ∧ pg s m = 1 ∧ dd s m = dd s (k + 1) ∧ ∀ i, m < i → i ≤ k → dd s (k + 1) + 1 ≤ dd s i
noncomputable def mR (s k : Nat) : Nat := @dite _ (∃ m, isR s k m) (Classical.propDecidable _) (fun h => Classical.choose h) (fun _ => 0)
noncomputable def mL (s k : Nat) : Nat := @dite _ (∃ m, isL s k m) (Classical.propDecidable _) (fun h => Classical.choose h) (fun _ => 0)
def non (s x : Nat) : Nat := putE (putE s x 0) (x + 1) 0
/-- where the ends go at a cell: c, r, d tell whether it, the one to its right and the one below are there -/
noncomputable def tr (c r d : Bool) (x s : Nat) : List Nat :=
  if c = false then (if pg s x = 0 ∧ pg s (x + 1) = 0 then [s] else [])
  else if pg s x = 0 ∧ pg s (x + 1) = 0 then (if r = true ∧ d = true then [putE (putE (non s x) x 1) (x + 1) 2] else [])
  else if pg s x = 0 ∨ pg s (x + 1) = 0 then (if d = true then [putE (non s x) x (pg s x + pg s (x + 1))] else []) ++ (if r = true then [putE (non s x) (x + 1) (pg s x + pg s (x + 1))] else [])
  else if pg s x = 1 ∧ pg s (x + 1) = 1 then [putE (non s x) (mR s (x + 1)) 1]
  else if pg s x = 2 ∧ pg s (x + 1) = 2 then [putE (non s x) (mL s x) 2]
  else if pg s x = 2 then [non s x] else []
