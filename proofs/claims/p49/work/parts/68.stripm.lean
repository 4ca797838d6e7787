/-- one cell of the class's front -/
def pcl (w x : Nat) (C : Nat → Nat) (d : Nat) : Nat := C (d ^^^ 2 ^ x) + (if x + 1 < w ∧ d.testBit (x + 1) = true ∧ d.testBit x = false then C (d ^^^ 2 ^ (x + 1)) else 0)
def pcL (w x : Nat) (c : List Nat) : List Nat := (List.range (2 ^ w)).map (pcl w x (fun d => c.getD d 0))
def pcC (w : Nat) : Nat → List Nat → List Nat
  | 0, c => c
  | x + 1, c => pcL w x (pcC w x c)
def bfL (w : Nat) : Nat → List Nat
  | 0 => (List.range (2 ^ w)).map (fun d => if d = 0 then 1 else 0)
  | n + 1 => pcC w w (bfL w n)
def sOrd (w : Nat) : Nat := [0, 2, 2, 4, 4, 8, 8].getD w 0
def sFac (w : Nat) : List Int := [[], [0, 1], [1, 1], [0, 4, 0, -1], [1, 5, 1, -1], [0, 15, 0, -32, 0, 15, 0, -1], [1, 20, 10, -38, -10, 20, -1, -1]].getD w []
def sIni (w : Nat) : List Nat := [[], [1, 0], [1, 1], [1, 0, 3, 0], [1, 1, 5, 11], [1, 0, 8, 0, 95, 0, 1183, 0], [1, 1, 13, 41, 281, 1183, 6728, 31529]].getD w []
def sF (w i : Nat) : Int := (sFac w).getD (i - 1) 0
/-! the numbers by the rule, the latest one first -/
def sLc (w : Nat) (l : List Int) : Int := fb_si (fun i => sF w (i + 1) * l.getD i 0) (sOrd w)
def sL (w : Nat) : Nat → List Int
  | 0 => [((sIni w).getD 0 0 : Nat)]
  | n + 1 => (if n + 1 < sOrd w then ((sIni w).getD (n + 1) 0 : Nat) else sLc w (sL w n)) :: sL w n
def sBig : Int := 1000000000 ^ 26
def sOk (w : Nat) : Bool := (sL w 300).all (fun x => decide (0 ≤ x) && decide (x < sBig))
theorem sOk_1 : sOk 1 = true := by decide +kernel
theorem sOk_2 : sOk 2 = true := by decide +kernel
theorem sOk_3 : sOk 3 = true := by decide +kernel
theorem sOk_4 : sOk 4 = true := by decide +kernel
theorem sOk_5 : sOk 5 = true := by decide +kernel
theorem sOk_6 : sOk 6 = true := by decide +kernel
def bfOk (w m : Nat) : Bool := (List.range m).all (fun n => decide ((((bfL w n).getD 0 0 : Nat) : Int) = (sL w n).getD 0 0))
theorem bfOk_1 : bfOk 1 31 = true := by decide +kernel
theorem bfOk_2 : bfOk 2 31 = true := by decide +kernel
theorem bfOk_3 : bfOk 3 31 = true := by decide +kernel
theorem bfOk_4 : bfOk 4 31 = true := by decide +kernel
theorem bfOk_5 : bfOk 5 8 = true := by decide +kernel
theorem bfOk_6 : bfOk 6 8 = true := by decide +kernel
