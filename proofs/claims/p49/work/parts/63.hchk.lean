/-! ===== heaps: both sides have the same number ===== -/
def vtl : List Nat := [0, 0, 76111964139078033472, 9259436087234003456, 0, 1152956690052710400, 0, 9223376434903384064, 0, 0, 0, 73786976303428141056, 0, 549755813888, 0, 0, 0, 2251799813685248, 0, 144115188075855872, 0, 0, 0, 590295810358705651712]
def vt (x n : Nat) : Nat := vtl.getD x 0 / 8 ^ n % 8
def sP (x c b a : Nat) : Nat := fb_sm (fun i => fb_sm (fun j => vt x (i + j + c + 1)) b) a
def hq (a b c x : Nat) : Nat := sP x c b a - sP x 0 b a
