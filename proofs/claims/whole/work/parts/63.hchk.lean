/-! ===== heaps: both sides have the same number ===== -/
def vtl : List Nat := [0, 0, 76111964139078033472, 9259436087234003456, 0, 1152956690052710400, 0, 9223376434903384064, 0, 0, 0, 73786976303428141056, 0, 549755813888, 0, 0, 0, 2251799813685248, 0, 144115188075855872, 0, 0, 0, 590295810358705651712]
def vt (x n : Nat) : Nat := vtl.getD x 0 / 8 ^ n % 8
theorem vt_ok : ∀ n : Fin 24, n.val = 0 ∨ ∀ x : Fin 24, ve n.val x.val = vt x.val n.val := by decide +kernel
def sP (x c b a : Nat) : Nat := fb_sm (fun i => fb_sm (fun j => vt x (i + j + c + 1)) b) a
def hq (a b c x : Nat) : Nat := sP x c b a - sP x 0 b a
def hprN (a b c : Nat) : Nat → Nat
  | 0 => 1
  | p + 1 => hprN a b c p * (p + 2) ^ hq a b c (p + 2)
def hchk (a b c : Nat) : Bool := (List.range 22).all (fun p => Nat.ble (sP (p + 2) 0 b a) (sP (p + 2) c b a) && Nat.ble (hq a b c (p + 2)) 1000) && (hprN a b c 22 == hps a b c)
theorem hchk_1 : ∀ b c : Fin 8, hchk 1 (b.val + 1) (c.val + 1) = true := by decide +kernel
theorem hchk_2 : ∀ b c : Fin 8, hchk 2 (b.val + 1) (c.val + 1) = true := by decide +kernel
theorem hchk_3 : ∀ b c : Fin 8, hchk 3 (b.val + 1) (c.val + 1) = true := by decide +kernel
theorem hchk_4 : ∀ b c : Fin 8, hchk 4 (b.val + 1) (c.val + 1) = true := by decide +kernel
theorem hchk_5 : ∀ b c : Fin 8, hchk 5 (b.val + 1) (c.val + 1) = true := by decide +kernel
theorem hchk_6 : ∀ b c : Fin 8, hchk 6 (b.val + 1) (c.val + 1) = true := by decide +kernel
theorem hchk_7 : ∀ b c : Fin 8, hchk 7 (b.val + 1) (c.val + 1) = true := by decide +kernel
theorem hchk_8 : ∀ b c : Fin 8, hchk 8 (b.val + 1) (c.val + 1) = true := by decide +kernel
