/-! ===== strips: what is computed, evaluated ===== -/
def PQ : Nat := 2147483647
/-- one cell of the class's front -/
def pcl (w x : Nat) (C : Nat → Nat) (d : Nat) : Nat := C (d ^^^ 2 ^ x) + (if x + 1 < w ∧ d.testBit (x + 1) = true ∧ d.testBit x = false then C (d ^^^ 2 ^ (x + 1)) else 0)
def pcL (w x : Nat) (c : List Nat) : List Nat := (List.range (2 ^ w)).map (pcl w x (fun d => c.getD d 0))
def pcC (w : Nat) : Nat → List Nat → List Nat
  | 0, c => c
  | x + 1, c => pcL w x (pcC w x c)
def bfL (w : Nat) : Nat → List Nat
  | 0 => (List.range (2 ^ w)).map (fun d => if d = 0 then 1 else 0)
  | n + 1 => pcC w w (bfL w n)
/-- how often a row leads from a mask to another one -/
def cR : Nat → Nat → Nat → Nat → Nat → Nat
  | 0, _, _, dn, d => if d = dn then 1 else 0
  | 1, x, f, dn, d => if f.testBit x = true then (if d = dn then 1 else 0) else (if d = dn ||| 2 ^ x then 1 else 0)
  | k + 2, x, f, dn, d => if f.testBit x = true then cR (k + 1) (x + 1) f dn d else (if f.testBit (x + 1) = true then 0 else cR k (x + 2) f dn d) + cR (k + 1) (x + 1) f (dn ||| 2 ^ x) d
def tL (w : Nat) : Nat → List Nat
  | 0 => (List.range (2 ^ w)).map (fun d => if d = 0 then 1 else 0)
  | n + 1 => (List.range (2 ^ w)).map (fun d => fb_sm (fun m => (tL w n).getD m 0 * cR w 0 m 0 d) (2 ^ w) % 2147483647)
def trm (w : Nat) : List Nat := (List.range 48).map (fun n => (tL w n).getD 0 0)
/-! the shortest rule -/
def offR (t now : List Nat) (n : Nat) : Nat → Nat
  | 0 => t.getD n 0
  | k + 1 => (offR t now n k + now.getD (k + 1) 0 * t.getD (n - (k + 1)) 0) % 2147483647
abbrev bmS : Type := List Nat × List Nat × Nat × Nat × Nat
def bmU (now bf : List Nat) (since by_ : Nat) : List Nat := (List.range 48).map (fun k => if since ≤ k then (now.getD k 0 + (2147483647 - by_) * bf.getD (k - since) 0) % 2147483647 else now.getD k 0)
def bmN (t : List Nat) (n : Nat) (s : bmS) : bmS :=
  if offR t s.1 n s.2.2.1 = 0 then (s.1, s.2.1, s.2.2.1, s.2.2.2.1 + 1, s.2.2.2.2)
  else if 2 * s.2.2.1 ≤ n then (bmU s.1 s.2.1 s.2.2.2.1 (offR t s.1 n s.2.2.1 * pwt 2147483647 31 2147483645 s.2.2.2.2 1 % 2147483647), s.1, n + 1 - s.2.2.1, 1, offR t s.1 n s.2.2.1)
  else (bmU s.1 s.2.1 s.2.2.2.1 (offR t s.1 n s.2.2.1 * pwt 2147483647 31 2147483645 s.2.2.2.2 1 % 2147483647), s.2.1, s.2.2.1, s.2.2.2.1 + 1, s.2.2.2.2)
def bmI (t : List Nat) : Nat → bmS
  | 0 => ((List.range 48).map (fun k => if k = 0 then 1 else 0), (List.range 48).map (fun k => if k = 0 then 1 else 0), 0, 1, 1)
  | n + 1 => bmN t n (bmI t n)
def sOrd (w : Nat) : Nat := [0, 2, 2, 4, 4, 8, 8].getD w 0
def sFac (w : Nat) : List Int := [[], [0, 1], [1, 1], [0, 4, 0, -1], [1, 5, 1, -1], [0, 15, 0, -32, 0, 15, 0, -1], [1, 20, 10, -38, -10, 20, -1, -1]].getD w []
def sIni (w : Nat) : List Nat := [[], [1, 0], [1, 1], [1, 0, 3, 0], [1, 1, 5, 11], [1, 0, 8, 0, 95, 0, 1183, 0], [1, 1, 13, 41, 281, 1183, 6728, 31529]].getD w []
def sF (w i : Nat) : Int := (sFac w).getD (i - 1) 0
def bmOk (w : Nat) : Bool := (fun s : bmS => s.2.2.1 == sOrd w && (List.range (sOrd w)).all (fun i => decide ((((2147483647 - s.1.getD (i + 1) 0) % 2147483647 : Nat) : Int) - (if 1073741823 < (2147483647 - s.1.getD (i + 1) 0) % 2147483647 then 2147483647 else 0) = sF w (i + 1)))) (bmI (trm w) 48) && (List.range (sOrd w)).all (fun i => (trm w).getD i 0 == (sIni w).getD i 0)
theorem bm_1 : bmOk 1 = true := by decide +kernel
theorem bm_2 : bmOk 2 = true := by decide +kernel
theorem bm_3 : bmOk 3 = true := by decide +kernel
theorem bm_4 : bmOk 4 = true := by decide +kernel
theorem bm_5 : bmOk 5 = true := by decide +kernel
theorem bm_6 : bmOk 6 = true := by decide +kernel
/-! the numbers by the rule, the latest one first -/
def sLc (w : Nat) (l : List Int) : Int := fb_si (fun i => sF w (i + 1) * l.getD i 0) (sOrd w)
def sL (w : Nat) : Nat → List Int
  | 0 => [((sIni w).getD 0 0 : Nat)]
  | n + 1 => (if n + 1 < sOrd w then ((sIni w).getD (n + 1) 0 : Nat) else sLc w (sL w n)) :: sL w n
def sBig : Int := 1000000000 ^ 26
def sOk (w : Nat) : Bool := (sL w 300).all (fun x => decide (0 ≤ x) && decide (x < sBig))
theorem sOk_1 : sOk 1 = true := by decide +kernel
theorem sOk_2 : sOk 2 = true := by decide +kernel
theorem sOk_3 : sOk 3 = true := by decide +kernel
theorem sOk_4 : sOk 4 = true := by decide +kernel
theorem sOk_5 : sOk 5 = true := by decide +kernel
theorem sOk_6 : sOk 6 = true := by decide +kernel
def bfOk (w m : Nat) : Bool := (List.range m).all (fun n => decide ((((bfL w n).getD 0 0 : Nat) : Int) = (sL w n).getD 0 0))
theorem bfOk_1 : bfOk 1 31 = true := by decide +kernel
theorem bfOk_2 : bfOk 2 31 = true := by decide +kernel
theorem bfOk_3 : bfOk 3 31 = true := by decide +kernel
theorem bfOk_4 : bfOk 4 31 = true := by decide +kernel
theorem bfOk_5 : bfOk 5 8 = true := by decide +kernel
theorem bfOk_6 : bfOk 6 8 = true := by decide +kernel
