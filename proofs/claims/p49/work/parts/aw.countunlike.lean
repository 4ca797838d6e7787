section UNC
variable {w h : Nat} {r : Bool} {S : Nat → Bool} {z : tq_S} {Q : tq_O → tq_S → Prop} {K P : Nat} {C M Z : Nat → Nat} {A : Nat → Int64} {f : Nat → plc} {st : Nat → Nat} {g0 : Nat}
/-- how many there are that no motion makes an earlier one of -/
noncomputable def unl (w h : Nat) (S : Nat → Bool) (P : Nat) (f : Nat → plc) (K : Nat) (M : Nat → Nat) : Nat := fb_ct (fun j => @decide (∀ m, m < 8 → Vf w h S P f K M j m = true → j ≤ acN w h S P f K M m j) (Classical.propDecidable _)) (exn (fb_ct S 64) P f K M)
theorem l_divN {a b : Nat} (ha : a < 9223372036854775808) (hb : 0 < b) (hb2 : b < 9223372036854775808) : lN a / lN b = lN (a / b) := by
  have ta : (lN a).toInt = a := pk_lT (by omega)
  have tb : (lN b).toInt = b := pk_lT (by omega)
  have hq : a / b ≤ a := Nat.div_le_self a b
  have tc : (lN (a / b)).toInt = ((a / b : Nat) : Int) := pk_lT (by omega)
  refine l_inj ?_
  rw [Int64.toInt_div, ta, tb, tc, ← Int.ofNat_tdiv]
  clear ta tb tc
  generalize a / b = q at hq ⊢
  exact fb_bmodL (by omega) (by omega)
end UNC
