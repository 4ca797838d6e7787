section RSF
variable {w h : Nat} {r : Bool} {S : Nat → Bool} {z : tq_S} {Q : tq_O → tq_S → Prop} {K P : Nat} {C M Z : Nat → Nat} {A : Nat → Int64} {f : Nat → plc}
theorem cnx_1 {n P : Nat} {f : Nat → plc} {c : Nat} {l : Nat → Nat} (hn : n ≤ tro c) : ∀ t, cnx n P f t c l = 1
  | 0 => if_pos hn
  | t + 1 => by rw [cnx_s, if_pos hn]
end RSF
