def fx_X3_prime (a0 : Int32) (z : tq_S) : Int64 := (if a0 = 0 then (2147483647 : Int64) else (if a0 = (1 : Int32) then (2147483629 : Int64) else (2147483587 : Int64)))
theorem fw_X3_prime {Q : tq_O → tq_S → Prop} {a0 : Int32} {z : tq_S} (k : Q (.inl (some (.long (fx_X3_prime a0 z)))) z) : wm_X3_prime a0 z Q := by
  unfold wm_X3_prime
  unfold fx_X3_prime at k
  refine ⟨fun h1 => ?_, fun h1 => ?_⟩
  · try rw [if_neg h1] at k
    refine ⟨fun h2 => ?_, fun h2 => ?_⟩
    · try rw [if_neg h2] at k
      exact k
    · try rw [if_pos h2] at k
      exact k
  · try rw [if_pos h1] at k
    exact k
def fx_J9_floorMod_7cf53 (a0 : Int32) (a1 : Int32) (z : tq_S) : Int32 := (if 0 ≤ (a0 ^^^ a1) then ((a0 - a0 / a1 * a1)) else (if ((a0 - a0 / a1 * a1)) = 0 then ((a0 - a0 / a1 * a1)) else (((a0 - a0 / a1 * a1)) + a1)))
def fg_J9_floorMod_7cf53 (a0 : Int32) (a1 : Int32) (z : tq_S) : Prop := ((¬ a1 = 0))
theorem fw_J9_floorMod_7cf53 {Q : tq_O → tq_S → Prop} {a0 : Int32} {a1 : Int32} {z : tq_S} (g : fg_J9_floorMod_7cf53 a0 a1 z) (k : Q (.inl (some (.int (fx_J9_floorMod_7cf53 a0 a1 z)))) z) : wm_J9_floorMod_7cf53 a0 a1 z Q := by
  unfold wm_J9_floorMod_7cf53
  unfold fg_J9_floorMod_7cf53 at g
  unfold fx_J9_floorMod_7cf53 at k
  refine ⟨g, ?_⟩
  intro v1_ e_
  subst e_
  refine ⟨fun h1 => ?_, fun h1 => ?_⟩
  · try rw [if_pos h1] at k
    exact k
  · try rw [if_neg h1] at k
    refine ⟨fun h2 => ?_, fun h2 => ?_⟩
    · try rw [if_pos h2] at k
      exact k
    · try rw [if_neg h2] at k
      exact k
