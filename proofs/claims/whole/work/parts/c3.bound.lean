/-! ===== the number of exact covers is small ===== -/
theorem exn_b {w h : Nat} {r : Bool} {S : Nat → Bool} {z z' : tq_S} {kN : Nat} {C M Z : Nat → Nat} {A : Nat → Int64} {P : Nat} {f : Nat → plc} {st : Nat → Nat} {g0 : Nat} (hd : jd w h r S) (kd : kdc kN C M Z A z) (ks : shps kN C Z A) (kf : kfam kN C A) (h24 : fb_ct S 64 ≤ 24) (hx : exc w h r S kN C M Z A P f st g0 z') : exn (fb_ct S 64) P f kN M < 2147483648 := by
  sorry
