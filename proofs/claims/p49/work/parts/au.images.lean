section IMC
variable {w h : Nat} {S : Nat → Bool} {P K : Nat} {f : Nat → plc} {M Z : Nat → Nat}
noncomputable def LL (S : Nat → Bool) (P : Nat) (f : Nat → plc) (K : Nat) (M : Nat → Nat) (j : Nat) : List Nat := pth (fb_ct S 64) P f 8 0 (mst K M) j
/-- whether a motion makes an exact cover of the j-th one -/
noncomputable def Vf (w h : Nat) (S : Nat → Bool) (P : Nat) (f : Nat → plc) (K : Nat) (M : Nat → Nat) (j m : Nat) : Bool := grB w h false S m && @decide (∀ a, a ∈ LL S P f K M j → ∃ q, imP w h S P f m a q) (Classical.propDecidable _)
noncomputable def acN (w h : Nat) (S : Nat → Bool) (P : Nat) (f : Nat → plc) (K : Nat) (M : Nat → Nat) (m j : Nat) : Nat := @dite _ (∃ j', j' < exn (fb_ct S 64) P f K M ∧ ∀ q, q ∈ LL S P f K M j' ↔ ∃ a, a ∈ LL S P f K M j ∧ imP w h S P f m a q) (Classical.propDecidable _) (fun e => Classical.choose e) (fun _ => 0)
end IMC
