def fx_X12_thrown  (z : tq_S) : Int32 := (tq_fi z 3264)
theorem fw_X12_thrown {Q : tq_O → tq_S → Prop}  {z : tq_S} (k : Q (.inl (some (.int (fx_X12_thrown  z)))) z) : wm_X12_thrown  z Q := by
  unfold wm_X12_thrown
  unfold fx_X12_thrown at k
  exact k
def fz_X12_anew  (z : tq_S) : tq_S := (tq_sfi (tq_sfi (tq_sfi z 3272 (0 : Int32)) 3274 (0 : Int32)) 3276 (0 : Int32))
theorem fw_X12_anew {Q : tq_O → tq_S → Prop}  {z : tq_S} (k : Q (.inl none) (fz_X12_anew  z)) : wm_X12_anew  z Q := by
  unfold wm_X12_anew
  unfold fz_X12_anew at k
  intro z1_ e_
  subst e_
  intro z2_ e_
  subst e_
  intro z3_ e_
  subst e_
  exact k
def fx_X12_isIn (a0 : Int32) (a1 : Int32) (a2 : Int32) (z : tq_S) : Int32 := (if a0 < a1 then (0 : Int32) else (if a2 < a0 then (0 : Int32) else (1 : Int32)))
theorem fw_X12_isIn {Q : tq_O → tq_S → Prop} {a0 : Int32} {a1 : Int32} {a2 : Int32} {z : tq_S} (k : Q (.inl (some (.int (fx_X12_isIn a0 a1 a2 z)))) z) : wm_X12_isIn a0 a1 a2 z Q := by
  unfold wm_X12_isIn
  unfold fx_X12_isIn at k
  refine ⟨fun h1 => ?_, fun h1 => ?_⟩
  · simp only [if_pos h1] at k
    exact k
  · simp only [if_neg h1] at k
    refine ⟨fun h2 => ?_, fun h2 => ?_⟩
    · simp only [if_pos h2] at k
      exact k
    · simp only [if_neg h2] at k
      exact k
def fx_X12_isDark (a0 : Int32) (a1 : Int32) (z : tq_S) : Int32 := (if ((a0 + a1) &&& (1 : Int32)) = 0 then (1 : Int32) else (0 : Int32))
theorem fw_X12_isDark {Q : tq_O → tq_S → Prop} {a0 : Int32} {a1 : Int32} {z : tq_S} (k : Q (.inl (some (.int (fx_X12_isDark a0 a1 z)))) z) : wm_X12_isDark a0 a1 z Q := by
  unfold wm_X12_isDark
  unfold fx_X12_isDark at k
  refine ⟨fun h1 => ?_, fun h1 => ?_⟩
  · simp only [if_neg h1] at k
    exact k
  · simp only [if_pos h1] at k
    exact k
def fz_X12_see (a1 : Int32) (z : tq_S) : tq_S := (tq_sfi (tq_sai (tq_sai z 61 (upd (tq_ai z 61) (Int32.toNatClampNeg a1) (vp_nar .boolean (1 : Int32)))) 62 (upd (tq_ai (tq_sai z 61 (upd (tq_ai z 61) (Int32.toNatClampNeg a1) (vp_nar .boolean (1 : Int32)))) 62) (Int32.toNatClampNeg (tq_fi (tq_sai z 61 (upd (tq_ai z 61) (Int32.toNatClampNeg a1) (vp_nar .boolean (1 : Int32)))) 3282)) a1)) 3282 ((tq_fi (tq_sai (tq_sai z 61 (upd (tq_ai z 61) (Int32.toNatClampNeg a1) (vp_nar .boolean (1 : Int32)))) 62 (upd (tq_ai (tq_sai z 61 (upd (tq_ai z 61) (Int32.toNatClampNeg a1) (vp_nar .boolean (1 : Int32)))) 62) (Int32.toNatClampNeg (tq_fi (tq_sai z 61 (upd (tq_ai z 61) (Int32.toNatClampNeg a1) (vp_nar .boolean (1 : Int32)))) 3282)) a1)) 3282) + (1 : Int32)))
def fg_X12_see (a1 : Int32) (z : tq_S) : Prop := (vp_in a1 64 ∧ (vp_in (tq_fi (tq_sai z 61 (upd (tq_ai z 61) (Int32.toNatClampNeg a1) (vp_nar .boolean (1 : Int32)))) 3282) 64))
theorem fw_X12_see {Q : tq_O → tq_S → Prop} {a1 : Int32} {z : tq_S} (g : fg_X12_see a1 z) (k : Q (.inl none) (fz_X12_see a1 z)) : wm_X12_see a1 z Q := by
  unfold wm_X12_see
  unfold fg_X12_see at g
  unfold fz_X12_see at k
  refine ⟨g.1, ?_⟩
  replace g := g.2
  intro z1_ e_
  subst e_
  refine ⟨g, ?_⟩
  intro z2_ e_
  subst e_
  intro z3_ e_
  subst e_
  exact k
def fx_X12_isLeft (a1 : Int32) (a2 : Int32) (z : tq_S) : Int32 := (if (tq_fi z 3265) ≤ a1 then (0 : Int32) else (if (tq_fi z 3266) ≤ a2 then (0 : Int32) else (if (tq_ai z 53 (Int32.toNatClampNeg (((8 : Int32) * a2) + a1))) = 0 then (0 : Int32) else (1 : Int32))))
def fg_X12_isLeft (a1 : Int32) (a2 : Int32) (z : tq_S) : Prop := (if (tq_fi z 3265) ≤ a1 then True else (if (tq_fi z 3266) ≤ a2 then True else (vp_in (((8 : Int32) * a2) + a1) 64)))
theorem fw_X12_isLeft {Q : tq_O → tq_S → Prop} {a1 : Int32} {a2 : Int32} {z : tq_S} (g : fg_X12_isLeft a1 a2 z) (k : Q (.inl (some (.int (fx_X12_isLeft a1 a2 z)))) z) : wm_X12_isLeft a1 a2 z Q := by
  unfold wm_X12_isLeft
  unfold fg_X12_isLeft at g
  unfold fx_X12_isLeft at k
  refine ⟨fun h1 => ?_, fun h1 => ?_⟩
  · simp only [if_pos h1] at k
    simp only [if_pos h1] at g
    clear g
    exact k
  · simp only [if_neg h1] at k
    simp only [if_neg h1] at g
    refine ⟨fun h2 => ?_, fun h2 => ?_⟩
    · simp only [if_pos h2] at k
      simp only [if_pos h2] at g
      clear g
      exact k
    · simp only [if_neg h2] at k
      simp only [if_neg h2] at g
      refine ⟨g, ?_⟩
      refine ⟨fun h3 => ?_, fun h3 => ?_⟩
      · simp only [if_pos h3] at k
        exact k
      · simp only [if_neg h3] at k
        exact k
def fz_X12_putSign (a1 : Int32) (z : tq_S) : tq_S := (tq_sfi (tq_sai z 60 (upd (tq_ai z 60) (Int32.toNatClampNeg (tq_fi z 3279)) (vp_nar .char ((Int32.toUInt32 a1) % 65536).toInt32))) 3279 ((tq_fi (tq_sai z 60 (upd (tq_ai z 60) (Int32.toNatClampNeg (tq_fi z 3279)) (vp_nar .char ((Int32.toUInt32 a1) % 65536).toInt32))) 3279) + (1 : Int32)))
def fg_X12_putSign (a1 : Int32) (z : tq_S) : Prop := (vp_in (tq_fi z 3279) 600)
theorem fw_X12_putSign {Q : tq_O → tq_S → Prop} {a1 : Int32} {z : tq_S} (g : fg_X12_putSign a1 z) (k : Q (.inl none) (fz_X12_putSign a1 z)) : wm_X12_putSign a1 z Q := by
  unfold wm_X12_putSign
  unfold fg_X12_putSign at g
  unfold fz_X12_putSign at k
  refine ⟨g, ?_⟩
  intro z1_ e_
  subst e_
  intro z2_ e_
  subst e_
  exact k
def fz_X12_take (a1 : Int32) (a2 : Int32) (a3 : Int32) (z : tq_S) : tq_S := (tq_sai (tq_sai z 53 (upd (tq_ai z 53) (Int32.toNatClampNeg a1) (vp_nar .boolean a3))) 53 (upd (tq_ai (tq_sai z 53 (upd (tq_ai z 53) (Int32.toNatClampNeg a1) (vp_nar .boolean a3))) 53) (Int32.toNatClampNeg a2) (vp_nar .boolean a3)))
def fg_X12_take (a1 : Int32) (a2 : Int32) (a3 : Int32) (z : tq_S) : Prop := (vp_in a1 64 ∧ (vp_in a2 64))
theorem fw_X12_take {Q : tq_O → tq_S → Prop} {a1 : Int32} {a2 : Int32} {a3 : Int32} {z : tq_S} (g : fg_X12_take a1 a2 a3 z) (k : Q (.inl none) (fz_X12_take a1 a2 a3 z)) : wm_X12_take a1 a2 a3 z Q := by
  unfold wm_X12_take
  unfold fg_X12_take at g
  unfold fz_X12_take at k
  refine ⟨g.1, ?_⟩
  replace g := g.2
  intro z1_ e_
  subst e_
  refine ⟨g, ?_⟩
  intro z2_ e_
  subst e_
  exact k
def fx_X12_isThere (a1 : Int32) (z : tq_S) : Int32 := (if a1 = (-1 : Int32) then (0 : Int32) else (if a1 = (tq_fi z 3288) then (0 : Int32) else (if (tq_ai z 52 (Int32.toNatClampNeg a1)) = 0 then (0 : Int32) else (1 : Int32))))
def fg_X12_isThere (a1 : Int32) (z : tq_S) : Prop := (if a1 = (-1 : Int32) then True else (if a1 = (tq_fi z 3288) then True else (vp_in a1 64)))
theorem fw_X12_isThere {Q : tq_O → tq_S → Prop} {a1 : Int32} {z : tq_S} (g : fg_X12_isThere a1 z) (k : Q (.inl (some (.int (fx_X12_isThere a1 z)))) z) : wm_X12_isThere a1 z Q := by
  unfold wm_X12_isThere
  unfold fg_X12_isThere at g
  unfold fx_X12_isThere at k
  refine ⟨fun h1 => ?_, fun h1 => ?_⟩
  · simp only [if_pos h1] at k
    simp only [if_pos h1] at g
    clear g
    exact k
  · simp only [if_neg h1] at k
    simp only [if_neg h1] at g
    refine ⟨fun h2 => ?_, fun h2 => ?_⟩
    · simp only [if_pos h2] at k
      simp only [if_pos h2] at g
      clear g
      exact k
    · simp only [if_neg h2] at k
      simp only [if_neg h2] at g
      refine ⟨g, ?_⟩
      refine ⟨fun h3 => ?_, fun h3 => ?_⟩
      · simp only [if_pos h3] at k
        exact k
      · simp only [if_neg h3] at k
        exact k
def fx_J9_min_7cf53 (a0 : Int32) (a1 : Int32) (z : tq_S) : Int32 := (if a1 < a0 then a1 else a0)
theorem fw_J9_min_7cf53 {Q : tq_O → tq_S → Prop} {a0 : Int32} {a1 : Int32} {z : tq_S} (k : Q (.inl (some (.int (fx_J9_min_7cf53 a0 a1 z)))) z) : wm_J9_min_7cf53 a0 a1 z Q := by
  unfold wm_J9_min_7cf53
  unfold fx_J9_min_7cf53 at k
  refine ⟨fun h1 => ?_, fun h1 => ?_⟩
  · simp only [if_pos h1] at k
    exact k
  · simp only [if_neg h1] at k
    exact k
def fx_X12_clear  (z : tq_S) : Int32 := ((tq_fi (tq_sfi z 3264 (0 : Int32)) 3290))
def fz_X12_clear  (z : tq_S) : tq_S := (tq_sfl (tq_sfi (tq_sfi z 3264 (0 : Int32)) 3290 (0 : Int32)) 3289 (0 : Int64))
theorem fw_X12_clear {Q : tq_O → tq_S → Prop}  {z : tq_S} (k : Q (.inl (some (.int (fx_X12_clear  z)))) (fz_X12_clear  z)) : wm_X12_clear  z Q := by
  unfold wm_X12_clear
  unfold fx_X12_clear fz_X12_clear at k
  intro z1_ e_
  subst e_
  intro v2_ e_
  subst e_
  intro z3_ e_
  subst e_
  intro z4_ e_
  subst e_
  exact k
def fx_X12_isAhead (a0 : Int64) (a2 : Int64) (z : tq_S) : Int32 := (if ((a0 ^^^ a2)) = (0 : Int64) then (0 : Int32) else (if ((a0 &&& ((a0 ^^^ a2))) &&& (-((a0 ^^^ a2)))) = (0 : Int64) then (0 : Int32) else (1 : Int32)))
theorem fw_X12_isAhead {Q : tq_O → tq_S → Prop} {a0 : Int64} {a2 : Int64} {z : tq_S} (k : Q (.inl (some (.int (fx_X12_isAhead a0 a2 z)))) z) : wm_X12_isAhead a0 a2 z Q := by
  unfold wm_X12_isAhead
  unfold fx_X12_isAhead at k
  intro v1_ e_
  subst e_
  refine ⟨fun h1 => ?_, fun h1 => ?_⟩
  · simp only [if_pos h1] at k
    exact k
  · simp only [if_neg h1] at k
    refine ⟨fun h2 => ?_, fun h2 => ?_⟩
    · simp only [if_pos h2] at k
      exact k
    · simp only [if_neg h2] at k
      exact k
def fx_X12_ruleOf (a1 : Int32) (z : tq_S) : Int64 := (if ((((2147483647 : Int64) - (tq_al z 79 (Int32.toNatClampNeg a1))) - ((2147483647 : Int64) - (tq_al z 79 (Int32.toNatClampNeg a1))) / (2147483647 : Int64) * (2147483647 : Int64))) ≤ (1073741823 : Int64) then ((((2147483647 : Int64) - (tq_al z 79 (Int32.toNatClampNeg a1))) - ((2147483647 : Int64) - (tq_al z 79 (Int32.toNatClampNeg a1))) / (2147483647 : Int64) * (2147483647 : Int64))) else (((((2147483647 : Int64) - (tq_al z 79 (Int32.toNatClampNeg a1))) - ((2147483647 : Int64) - (tq_al z 79 (Int32.toNatClampNeg a1))) / (2147483647 : Int64) * (2147483647 : Int64))) - (2147483647 : Int64)))
def fg_X12_ruleOf (a1 : Int32) (z : tq_S) : Prop := (vp_in a1 48)
theorem fw_X12_ruleOf {Q : tq_O → tq_S → Prop} {a1 : Int32} {z : tq_S} (g : fg_X12_ruleOf a1 z) (k : Q (.inl (some (.long (fx_X12_ruleOf a1 z)))) z) : wm_X12_ruleOf a1 z Q := by
  unfold wm_X12_ruleOf
  unfold fg_X12_ruleOf at g
  unfold fx_X12_ruleOf at k
  refine ⟨g, ?_⟩
  intro v1_ e_
  subst e_
  refine ⟨fun h1 => ?_, fun h1 => ?_⟩
  · simp only [if_pos h1] at k
    exact k
  · simp only [if_neg h1] at k
    exact k
def fz_X12_add (a1 : Int32) (a2 : Int64) (z : tq_S) : tq_S := (tq_sal z 86 (vp_updL (tq_al z 86) (Int32.toNatClampNeg a1) ((tq_al z 86 (Int32.toNatClampNeg a1)) + a2)))
def fg_X12_add (a1 : Int32) (a2 : Int64) (z : tq_S) : Prop := (vp_in a1 262144 ∧ (vp_in a1 262144))
theorem fw_X12_add {Q : tq_O → tq_S → Prop} {a1 : Int32} {a2 : Int64} {z : tq_S} (g : fg_X12_add a1 a2 z) (k : Q (.inl none) (fz_X12_add a1 a2 z)) : wm_X12_add a1 a2 z Q := by
  unfold wm_X12_add
  unfold fg_X12_add at g
  unfold fz_X12_add at k
  refine ⟨g.1, ?_⟩
  replace g := g.2
  refine ⟨g, ?_⟩
  intro z1_ e_
  subst e_
  exact k
def fx_X12_plug (a0 : Int32) (a1 : Int32) (z : tq_S) : Int32 := ((a0 >>> (((2 : Int32) * a1) &&& 31)) &&& (3 : Int32))
theorem fw_X12_plug {Q : tq_O → tq_S → Prop} {a0 : Int32} {a1 : Int32} {z : tq_S} (k : Q (.inl (some (.int (fx_X12_plug a0 a1 z)))) z) : wm_X12_plug a0 a1 z Q := by
  unfold wm_X12_plug
  unfold fx_X12_plug at k
  exact k
def fx_X12_with (a0 : Int32) (a1 : Int32) (a2 : Int32) (z : tq_S) : Int32 := ((a0 &&& (((3 : Int32) <<< (((2 : Int32) * a1) &&& 31)) ^^^ (-1 : Int32))) ||| (a2 <<< (((2 : Int32) * a1) &&& 31)))
theorem fw_X12_with {Q : tq_O → tq_S → Prop} {a0 : Int32} {a1 : Int32} {a2 : Int32} {z : tq_S} (k : Q (.inl (some (.int (fx_X12_with a0 a1 a2 z)))) z) : wm_X12_with a0 a1 a2 z Q := by
  unfold wm_X12_with
  unfold fx_X12_with at k
  exact k
def fx_X12_isSound  (z : tq_S) : Int32 := (1 : Int32)
def fz_X12_isSound  (z : tq_S) : tq_S := (tq_sfi z 3264 (0 : Int32))
theorem fw_X12_isSound {Q : tq_O → tq_S → Prop}  {z : tq_S} (k : Q (.inl (some (.int (fx_X12_isSound  z)))) (fz_X12_isSound  z)) : wm_X12_isSound  z Q := by
  unfold wm_X12_isSound
  unfold fx_X12_isSound fz_X12_isSound at k
  intro z1_ e_
  subst e_
  exact k
def fx_X11_isFrom (a0 : Int32) (a1 : Int32) (a2 : Int32) (z : tq_S) : Int32 := (if a1 < a0 then (0 : Int32) else (if a2 < a1 then (0 : Int32) else (1 : Int32)))
theorem fw_X11_isFrom {Q : tq_O → tq_S → Prop} {a0 : Int32} {a1 : Int32} {a2 : Int32} {z : tq_S} (k : Q (.inl (some (.int (fx_X11_isFrom a0 a1 a2 z)))) z) : wm_X11_isFrom a0 a1 a2 z Q := by
  unfold wm_X11_isFrom
  unfold fx_X11_isFrom at k
  refine ⟨fun h1 => ?_, fun h1 => ?_⟩
  · simp only [if_pos h1] at k
    exact k
  · simp only [if_neg h1] at k
    refine ⟨fun h2 => ?_, fun h2 => ?_⟩
    · simp only [if_pos h2] at k
      exact k
    · simp only [if_neg h2] at k
      exact k
def fz_X1_tell (a1 : Int32) (a2 : Int32) (a3 : Int64) (z : tq_S) : tq_S := (tq_sfi (tq_sfi (tq_sfl (tq_sfi (tq_sfi z 64 a1) 65 a2) 67 a3) 66 (0 : Int32)) 68 ((tq_fi (tq_sfi (tq_sfl (tq_sfi (tq_sfi z 64 a1) 65 a2) 67 a3) 66 (0 : Int32)) 68) + (1 : Int32)))
theorem fw_X1_tell {Q : tq_O → tq_S → Prop} {a1 : Int32} {a2 : Int32} {a3 : Int64} {z : tq_S} (k : Q (.inl none) (fz_X1_tell a1 a2 a3 z)) : wm_X1_tell a1 a2 a3 z Q := by
  unfold wm_X1_tell
  unfold fz_X1_tell at k
  intro z1_ e_
  subst e_
  intro z2_ e_
  subst e_
  intro z3_ e_
  subst e_
  intro z4_ e_
  subst e_
  intro z5_ e_
  subst e_
  exact k
def fz_X2_forget  (z : tq_S) : tq_S := (tq_sfl (tq_sfl (tq_sfi (tq_sfi (tq_sfi z 516 (0 : Int32)) 519 (0 : Int32)) 522 (0 : Int32)) 517 (0 : Int64)) 518 (0 : Int64))
theorem fw_X2_forget {Q : tq_O → tq_S → Prop}  {z : tq_S} (k : Q (.inl none) (fz_X2_forget  z)) : wm_X2_forget  z Q := by
  unfold wm_X2_forget
  unfold fz_X2_forget at k
  intro z1_ e_
  subst e_
  intro z2_ e_
  subst e_
  intro z3_ e_
  subst e_
  intro z4_ e_
  subst e_
  intro z5_ e_
  subst e_
  exact k
def fx_J13_bitCount_95d88 (a0 : Int64) (z : tq_S) : Int32 := ((Int64.toInt32 ((((((((((((((a0 - (((Int64.toUInt64 a0) >>> ((Int32.toInt64 (1 : Int32)).toUInt64 &&& Int64.toUInt64 63)).toInt64 &&& (6148914691236517205 : Int64)))) &&& (3689348814741910323 : Int64)) + (((Int64.toUInt64 ((a0 - (((Int64.toUInt64 a0) >>> ((Int32.toInt64 (1 : Int32)).toUInt64 &&& Int64.toUInt64 63)).toInt64 &&& (6148914691236517205 : Int64))))) >>> ((Int32.toInt64 (2 : Int32)).toUInt64 &&& Int64.toUInt64 63)).toInt64 &&& (3689348814741910323 : Int64)))) + ((Int64.toUInt64 (((((a0 - (((Int64.toUInt64 a0) >>> ((Int32.toInt64 (1 : Int32)).toUInt64 &&& Int64.toUInt64 63)).toInt64 &&& (6148914691236517205 : Int64)))) &&& (3689348814741910323 : Int64)) + (((Int64.toUInt64 ((a0 - (((Int64.toUInt64 a0) >>> ((Int32.toInt64 (1 : Int32)).toUInt64 &&& Int64.toUInt64 63)).toInt64 &&& (6148914691236517205 : Int64))))) >>> ((Int32.toInt64 (2 : Int32)).toUInt64 &&& Int64.toUInt64 63)).toInt64 &&& (3689348814741910323 : Int64))))) >>> ((Int32.toInt64 (4 : Int32)).toUInt64 &&& Int64.toUInt64 63)).toInt64) &&& (1085102592571150095 : Int64))) + ((Int64.toUInt64 ((((((((a0 - (((Int64.toUInt64 a0) >>> ((Int32.toInt64 (1 : Int32)).toUInt64 &&& Int64.toUInt64 63)).toInt64 &&& (6148914691236517205 : Int64)))) &&& (3689348814741910323 : Int64)) + (((Int64.toUInt64 ((a0 - (((Int64.toUInt64 a0) >>> ((Int32.toInt64 (1 : Int32)).toUInt64 &&& Int64.toUInt64 63)).toInt64 &&& (6148914691236517205 : Int64))))) >>> ((Int32.toInt64 (2 : Int32)).toUInt64 &&& Int64.toUInt64 63)).toInt64 &&& (3689348814741910323 : Int64)))) + ((Int64.toUInt64 (((((a0 - (((Int64.toUInt64 a0) >>> ((Int32.toInt64 (1 : Int32)).toUInt64 &&& Int64.toUInt64 63)).toInt64 &&& (6148914691236517205 : Int64)))) &&& (3689348814741910323 : Int64)) + (((Int64.toUInt64 ((a0 - (((Int64.toUInt64 a0) >>> ((Int32.toInt64 (1 : Int32)).toUInt64 &&& Int64.toUInt64 63)).toInt64 &&& (6148914691236517205 : Int64))))) >>> ((Int32.toInt64 (2 : Int32)).toUInt64 &&& Int64.toUInt64 63)).toInt64 &&& (3689348814741910323 : Int64))))) >>> ((Int32.toInt64 (4 : Int32)).toUInt64 &&& Int64.toUInt64 63)).toInt64) &&& (1085102592571150095 : Int64)))) >>> ((Int32.toInt64 (8 : Int32)).toUInt64 &&& Int64.toUInt64 63)).toInt64)) + ((Int64.toUInt64 ((((((((((a0 - (((Int64.toUInt64 a0) >>> ((Int32.toInt64 (1 : Int32)).toUInt64 &&& Int64.toUInt64 63)).toInt64 &&& (6148914691236517205 : Int64)))) &&& (3689348814741910323 : Int64)) + (((Int64.toUInt64 ((a0 - (((Int64.toUInt64 a0) >>> ((Int32.toInt64 (1 : Int32)).toUInt64 &&& Int64.toUInt64 63)).toInt64 &&& (6148914691236517205 : Int64))))) >>> ((Int32.toInt64 (2 : Int32)).toUInt64 &&& Int64.toUInt64 63)).toInt64 &&& (3689348814741910323 : Int64)))) + ((Int64.toUInt64 (((((a0 - (((Int64.toUInt64 a0) >>> ((Int32.toInt64 (1 : Int32)).toUInt64 &&& Int64.toUInt64 63)).toInt64 &&& (6148914691236517205 : Int64)))) &&& (3689348814741910323 : Int64)) + (((Int64.toUInt64 ((a0 - (((Int64.toUInt64 a0) >>> ((Int32.toInt64 (1 : Int32)).toUInt64 &&& Int64.toUInt64 63)).toInt64 &&& (6148914691236517205 : Int64))))) >>> ((Int32.toInt64 (2 : Int32)).toUInt64 &&& Int64.toUInt64 63)).toInt64 &&& (3689348814741910323 : Int64))))) >>> ((Int32.toInt64 (4 : Int32)).toUInt64 &&& Int64.toUInt64 63)).toInt64) &&& (1085102592571150095 : Int64))) + ((Int64.toUInt64 ((((((((a0 - (((Int64.toUInt64 a0) >>> ((Int32.toInt64 (1 : Int32)).toUInt64 &&& Int64.toUInt64 63)).toInt64 &&& (6148914691236517205 : Int64)))) &&& (3689348814741910323 : Int64)) + (((Int64.toUInt64 ((a0 - (((Int64.toUInt64 a0) >>> ((Int32.toInt64 (1 : Int32)).toUInt64 &&& Int64.toUInt64 63)).toInt64 &&& (6148914691236517205 : Int64))))) >>> ((Int32.toInt64 (2 : Int32)).toUInt64 &&& Int64.toUInt64 63)).toInt64 &&& (3689348814741910323 : Int64)))) + ((Int64.toUInt64 (((((a0 - (((Int64.toUInt64 a0) >>> ((Int32.toInt64 (1 : Int32)).toUInt64 &&& Int64.toUInt64 63)).toInt64 &&& (6148914691236517205 : Int64)))) &&& (3689348814741910323 : Int64)) + (((Int64.toUInt64 ((a0 - (((Int64.toUInt64 a0) >>> ((Int32.toInt64 (1 : Int32)).toUInt64 &&& Int64.toUInt64 63)).toInt64 &&& (6148914691236517205 : Int64))))) >>> ((Int32.toInt64 (2 : Int32)).toUInt64 &&& Int64.toUInt64 63)).toInt64 &&& (3689348814741910323 : Int64))))) >>> ((Int32.toInt64 (4 : Int32)).toUInt64 &&& Int64.toUInt64 63)).toInt64) &&& (1085102592571150095 : Int64)))) >>> ((Int32.toInt64 (8 : Int32)).toUInt64 &&& Int64.toUInt64 63)).toInt64))) >>> ((Int32.toInt64 (16 : Int32)).toUInt64 &&& Int64.toUInt64 63)).toInt64)) + ((Int64.toUInt64 ((((((((((((a0 - (((Int64.toUInt64 a0) >>> ((Int32.toInt64 (1 : Int32)).toUInt64 &&& Int64.toUInt64 63)).toInt64 &&& (6148914691236517205 : Int64)))) &&& (3689348814741910323 : Int64)) + (((Int64.toUInt64 ((a0 - (((Int64.toUInt64 a0) >>> ((Int32.toInt64 (1 : Int32)).toUInt64 &&& Int64.toUInt64 63)).toInt64 &&& (6148914691236517205 : Int64))))) >>> ((Int32.toInt64 (2 : Int32)).toUInt64 &&& Int64.toUInt64 63)).toInt64 &&& (3689348814741910323 : Int64)))) + ((Int64.toUInt64 (((((a0 - (((Int64.toUInt64 a0) >>> ((Int32.toInt64 (1 : Int32)).toUInt64 &&& Int64.toUInt64 63)).toInt64 &&& (6148914691236517205 : Int64)))) &&& (3689348814741910323 : Int64)) + (((Int64.toUInt64 ((a0 - (((Int64.toUInt64 a0) >>> ((Int32.toInt64 (1 : Int32)).toUInt64 &&& Int64.toUInt64 63)).toInt64 &&& (6148914691236517205 : Int64))))) >>> ((Int32.toInt64 (2 : Int32)).toUInt64 &&& Int64.toUInt64 63)).toInt64 &&& (3689348814741910323 : Int64))))) >>> ((Int32.toInt64 (4 : Int32)).toUInt64 &&& Int64.toUInt64 63)).toInt64) &&& (1085102592571150095 : Int64))) + ((Int64.toUInt64 ((((((((a0 - (((Int64.toUInt64 a0) >>> ((Int32.toInt64 (1 : Int32)).toUInt64 &&& Int64.toUInt64 63)).toInt64 &&& (6148914691236517205 : Int64)))) &&& (3689348814741910323 : Int64)) + (((Int64.toUInt64 ((a0 - (((Int64.toUInt64 a0) >>> ((Int32.toInt64 (1 : Int32)).toUInt64 &&& Int64.toUInt64 63)).toInt64 &&& (6148914691236517205 : Int64))))) >>> ((Int32.toInt64 (2 : Int32)).toUInt64 &&& Int64.toUInt64 63)).toInt64 &&& (3689348814741910323 : Int64)))) + ((Int64.toUInt64 (((((a0 - (((Int64.toUInt64 a0) >>> ((Int32.toInt64 (1 : Int32)).toUInt64 &&& Int64.toUInt64 63)).toInt64 &&& (6148914691236517205 : Int64)))) &&& (3689348814741910323 : Int64)) + (((Int64.toUInt64 ((a0 - (((Int64.toUInt64 a0) >>> ((Int32.toInt64 (1 : Int32)).toUInt64 &&& Int64.toUInt64 63)).toInt64 &&& (6148914691236517205 : Int64))))) >>> ((Int32.toInt64 (2 : Int32)).toUInt64 &&& Int64.toUInt64 63)).toInt64 &&& (3689348814741910323 : Int64))))) >>> ((Int32.toInt64 (4 : Int32)).toUInt64 &&& Int64.toUInt64 63)).toInt64) &&& (1085102592571150095 : Int64)))) >>> ((Int32.toInt64 (8 : Int32)).toUInt64 &&& Int64.toUInt64 63)).toInt64)) + ((Int64.toUInt64 ((((((((((a0 - (((Int64.toUInt64 a0) >>> ((Int32.toInt64 (1 : Int32)).toUInt64 &&& Int64.toUInt64 63)).toInt64 &&& (6148914691236517205 : Int64)))) &&& (3689348814741910323 : Int64)) + (((Int64.toUInt64 ((a0 - (((Int64.toUInt64 a0) >>> ((Int32.toInt64 (1 : Int32)).toUInt64 &&& Int64.toUInt64 63)).toInt64 &&& (6148914691236517205 : Int64))))) >>> ((Int32.toInt64 (2 : Int32)).toUInt64 &&& Int64.toUInt64 63)).toInt64 &&& (3689348814741910323 : Int64)))) + ((Int64.toUInt64 (((((a0 - (((Int64.toUInt64 a0) >>> ((Int32.toInt64 (1 : Int32)).toUInt64 &&& Int64.toUInt64 63)).toInt64 &&& (6148914691236517205 : Int64)))) &&& (3689348814741910323 : Int64)) + (((Int64.toUInt64 ((a0 - (((Int64.toUInt64 a0) >>> ((Int32.toInt64 (1 : Int32)).toUInt64 &&& Int64.toUInt64 63)).toInt64 &&& (6148914691236517205 : Int64))))) >>> ((Int32.toInt64 (2 : Int32)).toUInt64 &&& Int64.toUInt64 63)).toInt64 &&& (3689348814741910323 : Int64))))) >>> ((Int32.toInt64 (4 : Int32)).toUInt64 &&& Int64.toUInt64 63)).toInt64) &&& (1085102592571150095 : Int64))) + ((Int64.toUInt64 ((((((((a0 - (((Int64.toUInt64 a0) >>> ((Int32.toInt64 (1 : Int32)).toUInt64 &&& Int64.toUInt64 63)).toInt64 &&& (6148914691236517205 : Int64)))) &&& (3689348814741910323 : Int64)) + (((Int64.toUInt64 ((a0 - (((Int64.toUInt64 a0) >>> ((Int32.toInt64 (1 : Int32)).toUInt64 &&& Int64.toUInt64 63)).toInt64 &&& (6148914691236517205 : Int64))))) >>> ((Int32.toInt64 (2 : Int32)).toUInt64 &&& Int64.toUInt64 63)).toInt64 &&& (3689348814741910323 : Int64)))) + ((Int64.toUInt64 (((((a0 - (((Int64.toUInt64 a0) >>> ((Int32.toInt64 (1 : Int32)).toUInt64 &&& Int64.toUInt64 63)).toInt64 &&& (6148914691236517205 : Int64)))) &&& (3689348814741910323 : Int64)) + (((Int64.toUInt64 ((a0 - (((Int64.toUInt64 a0) >>> ((Int32.toInt64 (1 : Int32)).toUInt64 &&& Int64.toUInt64 63)).toInt64 &&& (6148914691236517205 : Int64))))) >>> ((Int32.toInt64 (2 : Int32)).toUInt64 &&& Int64.toUInt64 63)).toInt64 &&& (3689348814741910323 : Int64))))) >>> ((Int32.toInt64 (4 : Int32)).toUInt64 &&& Int64.toUInt64 63)).toInt64) &&& (1085102592571150095 : Int64)))) >>> ((Int32.toInt64 (8 : Int32)).toUInt64 &&& Int64.toUInt64 63)).toInt64))) >>> ((Int32.toInt64 (16 : Int32)).toUInt64 &&& Int64.toUInt64 63)).toInt64))) >>> ((Int32.toInt64 (32 : Int32)).toUInt64 &&& Int64.toUInt64 63)).toInt64))) &&& (127 : Int32))
theorem fw_J13_bitCount_95d88 {Q : tq_O → tq_S → Prop} {a0 : Int64} {z : tq_S} (k : Q (.inl (some (.int (fx_J13_bitCount_95d88 a0 z)))) z) : wm_J13_bitCount_95d88 a0 z Q := by
  unfold wm_J13_bitCount_95d88
  unfold fx_J13_bitCount_95d88 at k
  intro v1_ e_
  subst e_
  intro v2_ e_
  subst e_
  intro v3_ e_
  subst e_
  intro v4_ e_
  subst e_
  intro v5_ e_
  subst e_
  intro v6_ e_
  subst e_
  exact k
def fx_X1_bit (a0 : Int32) (a1 : Int32) (z : tq_S) : Int64 := ((1 : Int64) <<< ((Int32.toInt64 (((8 : Int32) * a1) + a0)) &&& 63))
theorem fw_X1_bit {Q : tq_O → tq_S → Prop} {a0 : Int32} {a1 : Int32} {z : tq_S} (k : Q (.inl (some (.long (fx_X1_bit a0 a1 z)))) z) : wm_X1_bit a0 a1 z Q := by
  unfold wm_X1_bit
  unfold fx_X1_bit at k
  exact k
def fx_X1_holds (a1 : Int32) (a2 : Int32) (z : tq_S) : Int32 := (if a1 < 0 then (0 : Int32) else (if (tq_fi z 64) ≤ a1 then (0 : Int32) else (if a2 < 0 then (0 : Int32) else (if (tq_fi z 65) ≤ a2 then (0 : Int32) else (if (((Int64.toUInt64 (tq_fl z 67)) >>> ((Int32.toInt64 (((8 : Int32) * a2) + a1)).toUInt64 &&& Int64.toUInt64 63)).toInt64 &&& (1 : Int64)) = (0 : Int64) then (0 : Int32) else (1 : Int32))))))
theorem fw_X1_holds {Q : tq_O → tq_S → Prop} {a1 : Int32} {a2 : Int32} {z : tq_S} (k : Q (.inl (some (.int (fx_X1_holds a1 a2 z)))) z) : wm_X1_holds a1 a2 z Q := by
  unfold wm_X1_holds
  unfold fx_X1_holds at k
  refine ⟨fun h1 => ?_, fun h1 => ?_⟩
  · simp only [if_pos h1] at k
    exact k
  · simp only [if_neg h1] at k
    refine ⟨fun h2 => ?_, fun h2 => ?_⟩
    · simp only [if_pos h2] at k
      exact k
    · simp only [if_neg h2] at k
      refine ⟨fun h3 => ?_, fun h3 => ?_⟩
      · simp only [if_pos h3] at k
        exact k
      · simp only [if_neg h3] at k
        refine ⟨fun h4 => ?_, fun h4 => ?_⟩
        · simp only [if_pos h4] at k
          exact k
        · simp only [if_neg h4] at k
          refine ⟨fun h5 => ?_, fun h5 => ?_⟩
          · simp only [if_pos h5] at k
            exact k
          · simp only [if_neg h5] at k
            exact k
def fx_X1_isWithin (a1 : Int32) (a2 : Int32) (z : tq_S) : Int32 := (if a1 < 0 then (0 : Int32) else (if (tq_fi z 64) ≤ a1 then (0 : Int32) else (if a2 < 0 then (0 : Int32) else (if (tq_fi z 65) ≤ a2 then (0 : Int32) else (1 : Int32)))))
theorem fw_X1_isWithin {Q : tq_O → tq_S → Prop} {a1 : Int32} {a2 : Int32} {z : tq_S} (k : Q (.inl (some (.int (fx_X1_isWithin a1 a2 z)))) z) : wm_X1_isWithin a1 a2 z Q := by
  unfold wm_X1_isWithin
  unfold fx_X1_isWithin at k
  refine ⟨fun h1 => ?_, fun h1 => ?_⟩
  · simp only [if_pos h1] at k
    exact k
  · simp only [if_neg h1] at k
    refine ⟨fun h2 => ?_, fun h2 => ?_⟩
    · simp only [if_pos h2] at k
      exact k
    · simp only [if_neg h2] at k
      refine ⟨fun h3 => ?_, fun h3 => ?_⟩
      · simp only [if_pos h3] at k
        exact k
      · simp only [if_neg h3] at k
        refine ⟨fun h4 => ?_, fun h4 => ?_⟩
        · simp only [if_pos h4] at k
          exact k
        · simp only [if_neg h4] at k
          exact k
def fx_X1_canBeRolled  (z : tq_S) : Int32 := (if ((tq_fi z 64) - (tq_fi z 64) / (2 : Int32) * (2 : Int32)) = 0 then (if (tq_fi z 64) < (4 : Int32) then (0 : Int32) else (1 : Int32)) else (0 : Int32))
theorem fw_X1_canBeRolled {Q : tq_O → tq_S → Prop}  {z : tq_S} (k : Q (.inl (some (.int (fx_X1_canBeRolled  z)))) z) : wm_X1_canBeRolled  z Q := by
  unfold wm_X1_canBeRolled
  unfold fx_X1_canBeRolled at k
  refine ⟨fun h1 => ?_, fun h1 => ?_⟩
  · simp only [if_neg h1] at k
    exact k
  · simp only [if_pos h1] at k
    refine ⟨fun h2 => ?_, fun h2 => ?_⟩
    · simp only [if_pos h2] at k
      exact k
    · simp only [if_neg h2] at k
      exact k
def fz_X1_turnRound (a1 : Int32) (z : tq_S) : tq_S := (tq_sfi (tq_sfi z 66 a1) 68 ((tq_fi (tq_sfi z 66 a1) 68) + (1 : Int32)))
def fg_X1_turnRound (a1 : Int32) (z : tq_S) : Prop := (tq_nz a1)
theorem fw_X1_turnRound {Q : tq_O → tq_S → Prop} {a1 : Int32} {z : tq_S} (g : fg_X1_turnRound a1 z) (k : Q (.inl none) (fz_X1_turnRound a1 z)) : wm_X1_turnRound a1 z Q := by
  unfold wm_X1_turnRound
  unfold fg_X1_turnRound at g
  unfold fz_X1_turnRound at k
  refine ⟨g, ?_⟩
  intro z1_ e_
  subst e_
  intro z2_ e_
  subst e_
  exact k
def fx_X1_beside (a1 : Int64) (z : tq_S) : Int64 := (if (tq_fi z 66) = 0 then (((((a1 <<< ((Int32.toInt64 (8 : Int32)) &&& 63)) ||| ((Int64.toUInt64 a1) >>> ((Int32.toInt64 (8 : Int32)).toUInt64 &&& Int64.toUInt64 63)).toInt64) ||| ((a1 &&& ((-9187201950435737472 : Int64) ^^^ (-1 : Int64))) <<< ((Int32.toInt64 (1 : Int32)) &&& 63))) ||| ((Int64.toUInt64 (a1 &&& (-72340172838076674 : Int64))) >>> ((Int32.toInt64 (1 : Int32)).toUInt64 &&& Int64.toUInt64 63)).toInt64)) else (((((((((a1 <<< ((Int32.toInt64 (8 : Int32)) &&& 63)) ||| ((Int64.toUInt64 a1) >>> ((Int32.toInt64 (8 : Int32)).toUInt64 &&& Int64.toUInt64 63)).toInt64) ||| ((a1 &&& ((-9187201950435737472 : Int64) ^^^ (-1 : Int64))) <<< ((Int32.toInt64 (1 : Int32)) &&& 63))) ||| ((Int64.toUInt64 (a1 &&& (-72340172838076674 : Int64))) >>> ((Int32.toInt64 (1 : Int32)).toUInt64 &&& Int64.toUInt64 63)).toInt64)) ||| ((a1 &&& (72340172838076673 : Int64)) <<< ((Int32.toInt64 ((tq_fi z 64) - (1 : Int32))) &&& 63)))) ||| (((Int64.toUInt64 a1) >>> ((Int32.toInt64 ((tq_fi z 64) - (1 : Int32))).toUInt64 &&& Int64.toUInt64 63)).toInt64 &&& (72340172838076673 : Int64)))))
theorem fw_X1_beside {Q : tq_O → tq_S → Prop} {a1 : Int64} {z : tq_S} (k : Q (.inl (some (.long (fx_X1_beside a1 z)))) z) : wm_X1_beside a1 z Q := by
  unfold wm_X1_beside
  unfold fx_X1_beside at k
  intro v1_ e_
  subst e_
  refine ⟨fun h1 => ?_, fun h1 => ?_⟩
  · simp only [if_pos h1] at k
    exact k
  · simp only [if_neg h1] at k
    intro v2_ e_
    subst e_
    intro v3_ e_
    subst e_
    exact k
def fx_X5_onward (a1 : Int32) (a2 : Int32) (z : tq_S) : Int64 := (if 0 ≤ a2 then (tq_al z 4 (Int32.toNatClampNeg (((a1 + (1 : Int32)) * (512 : Int32)) + a2))) else (0 : Int64))
def fg_X5_onward (a1 : Int32) (a2 : Int32) (z : tq_S) : Prop := (if 0 ≤ a2 then (vp_in (((a1 + (1 : Int32)) * (512 : Int32)) + a2) 4608) else True)
theorem fw_X5_onward {Q : tq_O → tq_S → Prop} {a1 : Int32} {a2 : Int32} {z : tq_S} (g : fg_X5_onward a1 a2 z) (k : Q (.inl (some (.long (fx_X5_onward a1 a2 z)))) z) : wm_X5_onward a1 a2 z Q := by
  unfold wm_X5_onward
  unfold fg_X5_onward at g
  unfold fx_X5_onward at k
  refine ⟨fun h1 => ?_, fun h1 => ?_⟩
  · simp only [if_pos h1] at k
    simp only [if_pos h1] at g
    refine ⟨g, ?_⟩
    exact k
  · simp only [if_neg h1] at k
    simp only [if_neg h1] at g
    clear g
    exact k
def fx_J9_abs_067f4 (a0 : Int64) (z : tq_S) : Int64 := (if (0 : Int64) ≤ a0 then a0 else (-a0))
theorem fw_J9_abs_067f4 {Q : tq_O → tq_S → Prop} {a0 : Int64} {z : tq_S} (k : Q (.inl (some (.long (fx_J9_abs_067f4 a0 z)))) z) : wm_J9_abs_067f4 a0 z Q := by
  unfold wm_J9_abs_067f4
  unfold fx_J9_abs_067f4 at k
  refine ⟨fun h1 => ?_, fun h1 => ?_⟩
  · simp only [if_pos h1] at k
    exact k
  · simp only [if_neg h1] at k
    exact k
def fx_J9_max_7cf53 (a0 : Int32) (a1 : Int32) (z : tq_S) : Int32 := (if a0 < a1 then a1 else a0)
theorem fw_J9_max_7cf53 {Q : tq_O → tq_S → Prop} {a0 : Int32} {a1 : Int32} {z : tq_S} (k : Q (.inl (some (.int (fx_J9_max_7cf53 a0 a1 z)))) z) : wm_J9_max_7cf53 a0 a1 z Q := by
  unfold wm_J9_max_7cf53
  unfold fx_J9_max_7cf53 at k
  refine ⟨fun h1 => ?_, fun h1 => ?_⟩
  · simp only [if_pos h1] at k
    exact k
  · simp only [if_neg h1] at k
    exact k
def fx_X3_prime (a0 : Int32) (z : tq_S) : Int64 := (if a0 = 0 then (2147483647 : Int64) else (if a0 = (1 : Int32) then (2147483629 : Int64) else (2147483587 : Int64)))
theorem fw_X3_prime {Q : tq_O → tq_S → Prop} {a0 : Int32} {z : tq_S} (k : Q (.inl (some (.long (fx_X3_prime a0 z)))) z) : wm_X3_prime a0 z Q := by
  unfold wm_X3_prime
  unfold fx_X3_prime at k
  refine ⟨fun h1 => ?_, fun h1 => ?_⟩
  · simp only [if_neg h1] at k
    refine ⟨fun h2 => ?_, fun h2 => ?_⟩
    · simp only [if_neg h2] at k
      exact k
    · simp only [if_pos h2] at k
      exact k
  · simp only [if_pos h1] at k
    exact k
def fx_J9_floorMod_f86c9 (a0 : Int64) (a2 : Int64) (z : tq_S) : Int64 := (if (0 : Int64) ≤ (a0 ^^^ a2) then ((a0 - a0 / a2 * a2)) else (if ((a0 - a0 / a2 * a2)) = (0 : Int64) then ((a0 - a0 / a2 * a2)) else (((a0 - a0 / a2 * a2)) + a2)))
def fg_J9_floorMod_f86c9 (a0 : Int64) (a2 : Int64) (z : tq_S) : Prop := ((¬ a2 = 0))
theorem fw_J9_floorMod_f86c9 {Q : tq_O → tq_S → Prop} {a0 : Int64} {a2 : Int64} {z : tq_S} (g : fg_J9_floorMod_f86c9 a0 a2 z) (k : Q (.inl (some (.long (fx_J9_floorMod_f86c9 a0 a2 z)))) z) : wm_J9_floorMod_f86c9 a0 a2 z Q := by
  unfold wm_J9_floorMod_f86c9
  unfold fg_J9_floorMod_f86c9 at g
  unfold fx_J9_floorMod_f86c9 at k
  refine ⟨g, ?_⟩
  intro v1_ e_
  subst e_
  refine ⟨fun h1 => ?_, fun h1 => ?_⟩
  · simp only [if_pos h1] at k
    exact k
  · simp only [if_neg h1] at k
    refine ⟨fun h2 => ?_, fun h2 => ?_⟩
    · simp only [if_pos h2] at k
      exact k
    · simp only [if_neg h2] at k
      exact k
def fx_X1_rightOf (a1 : Int32) (z : tq_S) : Int32 := (if (tq_fi z 64) ≤ (a1 + (1 : Int32)) then (if (tq_fi z 66) = 0 then (-1 : Int32) else (0 : Int32)) else (a1 + (1 : Int32)))
theorem fw_X1_rightOf {Q : tq_O → tq_S → Prop} {a1 : Int32} {z : tq_S} (k : Q (.inl (some (.int (fx_X1_rightOf a1 z)))) z) : wm_X1_rightOf a1 z Q := by
  unfold wm_X1_rightOf
  unfold fx_X1_rightOf at k
  refine ⟨fun h1 => ?_, fun h1 => ?_⟩
  · simp only [if_pos h1] at k
    refine ⟨fun h2 => ?_, fun h2 => ?_⟩
    · simp only [if_pos h2] at k
      exact k
    · simp only [if_neg h2] at k
      exact k
  · simp only [if_neg h1] at k
    exact k
def fx_X5_withPiece (a1 : Int32) (a2 : Int32) (a3 : Int32) (z : tq_S) : Int64 := (if a3 = 0 then (tq_al z 7 (Int32.toNatClampNeg (((2 : Int32) * (((8 : Int32) * a2) + a1)) + (1 : Int32)))) else (tq_al z 7 (Int32.toNatClampNeg (((2 : Int32) * (((8 : Int32) * a2) + a1)) + (0 : Int32)))))
def fg_X5_withPiece (a1 : Int32) (a2 : Int32) (a3 : Int32) (z : tq_S) : Prop := (if a3 = 0 then (vp_in (((2 : Int32) * (((8 : Int32) * a2) + a1)) + (1 : Int32)) 128) else (vp_in (((2 : Int32) * (((8 : Int32) * a2) + a1)) + (0 : Int32)) 128))
theorem fw_X5_withPiece {Q : tq_O → tq_S → Prop} {a1 : Int32} {a2 : Int32} {a3 : Int32} {z : tq_S} (g : fg_X5_withPiece a1 a2 a3 z) (k : Q (.inl (some (.long (fx_X5_withPiece a1 a2 a3 z)))) z) : wm_X5_withPiece a1 a2 a3 z Q := by
  unfold wm_X5_withPiece
  unfold fg_X5_withPiece at g
  unfold fx_X5_withPiece at k
  refine ⟨fun h1 => ?_, fun h1 => ?_⟩
  · simp only [if_pos h1] at k
    simp only [if_pos h1] at g
    refine ⟨g, ?_⟩
    exact k
  · simp only [if_neg h1] at k
    simp only [if_neg h1] at g
    refine ⟨g, ?_⟩
    exact k
def fz_X2_takeBack  (z : tq_S) : tq_S := (if (tq_fi z 522) ≤ 0 then z else (tq_sfi (tq_sfl (tq_sfl (tq_sfi z 522 ((tq_fi z 522) - (1 : Int32))) 517 (tq_al (tq_sfi z 522 ((tq_fi z 522) - (1 : Int32))) 9 (Int32.toNatClampNeg (tq_fi (tq_sfi z 522 ((tq_fi z 522) - (1 : Int32))) 522)))) 518 (tq_al (tq_sfl (tq_sfi z 522 ((tq_fi z 522) - (1 : Int32))) 517 (tq_al (tq_sfi z 522 ((tq_fi z 522) - (1 : Int32))) 9 (Int32.toNatClampNeg (tq_fi (tq_sfi z 522 ((tq_fi z 522) - (1 : Int32))) 522)))) 10 (Int32.toNatClampNeg (tq_fi (tq_sfl (tq_sfi z 522 ((tq_fi z 522) - (1 : Int32))) 517 (tq_al (tq_sfi z 522 ((tq_fi z 522) - (1 : Int32))) 9 (Int32.toNatClampNeg (tq_fi (tq_sfi z 522 ((tq_fi z 522) - (1 : Int32))) 522)))) 522)))) 516 (tq_ai (tq_sfl (tq_sfl (tq_sfi z 522 ((tq_fi z 522) - (1 : Int32))) 517 (tq_al (tq_sfi z 522 ((tq_fi z 522) - (1 : Int32))) 9 (Int32.toNatClampNeg (tq_fi (tq_sfi z 522 ((tq_fi z 522) - (1 : Int32))) 522)))) 518 (tq_al (tq_sfl (tq_sfi z 522 ((tq_fi z 522) - (1 : Int32))) 517 (tq_al (tq_sfi z 522 ((tq_fi z 522) - (1 : Int32))) 9 (Int32.toNatClampNeg (tq_fi (tq_sfi z 522 ((tq_fi z 522) - (1 : Int32))) 522)))) 10 (Int32.toNatClampNeg (tq_fi (tq_sfl (tq_sfi z 522 ((tq_fi z 522) - (1 : Int32))) 517 (tq_al (tq_sfi z 522 ((tq_fi z 522) - (1 : Int32))) 9 (Int32.toNatClampNeg (tq_fi (tq_sfi z 522 ((tq_fi z 522) - (1 : Int32))) 522)))) 522)))) 11 (Int32.toNatClampNeg (tq_fi (tq_sfl (tq_sfl (tq_sfi z 522 ((tq_fi z 522) - (1 : Int32))) 517 (tq_al (tq_sfi z 522 ((tq_fi z 522) - (1 : Int32))) 9 (Int32.toNatClampNeg (tq_fi (tq_sfi z 522 ((tq_fi z 522) - (1 : Int32))) 522)))) 518 (tq_al (tq_sfl (tq_sfi z 522 ((tq_fi z 522) - (1 : Int32))) 517 (tq_al (tq_sfi z 522 ((tq_fi z 522) - (1 : Int32))) 9 (Int32.toNatClampNeg (tq_fi (tq_sfi z 522 ((tq_fi z 522) - (1 : Int32))) 522)))) 10 (Int32.toNatClampNeg (tq_fi (tq_sfl (tq_sfi z 522 ((tq_fi z 522) - (1 : Int32))) 517 (tq_al (tq_sfi z 522 ((tq_fi z 522) - (1 : Int32))) 9 (Int32.toNatClampNeg (tq_fi (tq_sfi z 522 ((tq_fi z 522) - (1 : Int32))) 522)))) 522)))) 522)))))
def fg_X2_takeBack  (z : tq_S) : Prop := (if (tq_fi z 522) ≤ 0 then True else (vp_in (tq_fi (tq_sfi z 522 ((tq_fi z 522) - (1 : Int32))) 522) 10 ∧ (vp_in (tq_fi (tq_sfl (tq_sfi z 522 ((tq_fi z 522) - (1 : Int32))) 517 (tq_al (tq_sfi z 522 ((tq_fi z 522) - (1 : Int32))) 9 (Int32.toNatClampNeg (tq_fi (tq_sfi z 522 ((tq_fi z 522) - (1 : Int32))) 522)))) 522) 10 ∧ (vp_in (tq_fi (tq_sfl (tq_sfl (tq_sfi z 522 ((tq_fi z 522) - (1 : Int32))) 517 (tq_al (tq_sfi z 522 ((tq_fi z 522) - (1 : Int32))) 9 (Int32.toNatClampNeg (tq_fi (tq_sfi z 522 ((tq_fi z 522) - (1 : Int32))) 522)))) 518 (tq_al (tq_sfl (tq_sfi z 522 ((tq_fi z 522) - (1 : Int32))) 517 (tq_al (tq_sfi z 522 ((tq_fi z 522) - (1 : Int32))) 9 (Int32.toNatClampNeg (tq_fi (tq_sfi z 522 ((tq_fi z 522) - (1 : Int32))) 522)))) 10 (Int32.toNatClampNeg (tq_fi (tq_sfl (tq_sfi z 522 ((tq_fi z 522) - (1 : Int32))) 517 (tq_al (tq_sfi z 522 ((tq_fi z 522) - (1 : Int32))) 9 (Int32.toNatClampNeg (tq_fi (tq_sfi z 522 ((tq_fi z 522) - (1 : Int32))) 522)))) 522)))) 522) 10 ∧ (tq_nz (tq_ai (tq_sfl (tq_sfl (tq_sfi z 522 ((tq_fi z 522) - (1 : Int32))) 517 (tq_al (tq_sfi z 522 ((tq_fi z 522) - (1 : Int32))) 9 (Int32.toNatClampNeg (tq_fi (tq_sfi z 522 ((tq_fi z 522) - (1 : Int32))) 522)))) 518 (tq_al (tq_sfl (tq_sfi z 522 ((tq_fi z 522) - (1 : Int32))) 517 (tq_al (tq_sfi z 522 ((tq_fi z 522) - (1 : Int32))) 9 (Int32.toNatClampNeg (tq_fi (tq_sfi z 522 ((tq_fi z 522) - (1 : Int32))) 522)))) 10 (Int32.toNatClampNeg (tq_fi (tq_sfl (tq_sfi z 522 ((tq_fi z 522) - (1 : Int32))) 517 (tq_al (tq_sfi z 522 ((tq_fi z 522) - (1 : Int32))) 9 (Int32.toNatClampNeg (tq_fi (tq_sfi z 522 ((tq_fi z 522) - (1 : Int32))) 522)))) 522)))) 11 (Int32.toNatClampNeg (tq_fi (tq_sfl (tq_sfl (tq_sfi z 522 ((tq_fi z 522) - (1 : Int32))) 517 (tq_al (tq_sfi z 522 ((tq_fi z 522) - (1 : Int32))) 9 (Int32.toNatClampNeg (tq_fi (tq_sfi z 522 ((tq_fi z 522) - (1 : Int32))) 522)))) 518 (tq_al (tq_sfl (tq_sfi z 522 ((tq_fi z 522) - (1 : Int32))) 517 (tq_al (tq_sfi z 522 ((tq_fi z 522) - (1 : Int32))) 9 (Int32.toNatClampNeg (tq_fi (tq_sfi z 522 ((tq_fi z 522) - (1 : Int32))) 522)))) 10 (Int32.toNatClampNeg (tq_fi (tq_sfl (tq_sfi z 522 ((tq_fi z 522) - (1 : Int32))) 517 (tq_al (tq_sfi z 522 ((tq_fi z 522) - (1 : Int32))) 9 (Int32.toNatClampNeg (tq_fi (tq_sfi z 522 ((tq_fi z 522) - (1 : Int32))) 522)))) 522)))) 522))))))))
theorem fw_X2_takeBack {Q : tq_O → tq_S → Prop}  {z : tq_S} (g : fg_X2_takeBack  z) (k : Q (.inl none) (fz_X2_takeBack  z)) : wm_X2_takeBack  z Q := by
  unfold wm_X2_takeBack
  unfold fg_X2_takeBack at g
  unfold fz_X2_takeBack at k
  refine ⟨fun h1 => ?_, fun h1 => ?_⟩
  · simp only [if_pos h1] at k
    simp only [if_pos h1] at g
    clear g
    exact k
  · simp only [if_neg h1] at k
    simp only [if_neg h1] at g
    intro z1_ e_
    subst e_
    refine ⟨g.1, ?_⟩
    replace g := g.2
    intro z2_ e_
    subst e_
    refine ⟨g.1, ?_⟩
    replace g := g.2
    intro z3_ e_
    subst e_
    refine ⟨g.1, ?_⟩
    replace g := g.2
    refine ⟨g, ?_⟩
    intro z4_ e_
    subst e_
    exact k
def fz_X2_store  (z : tq_S) : tq_S := (tq_sfi (tq_sfl (tq_sfl z 520 (tq_fl z 517)) 521 (tq_fl (tq_sfl z 520 (tq_fl z 517)) 518)) 519 (1 : Int32))
theorem fw_X2_store {Q : tq_O → tq_S → Prop}  {z : tq_S} (k : Q (.inl none) (fz_X2_store  z)) : wm_X2_store  z Q := by
  unfold wm_X2_store
  unfold fz_X2_store at k
  intro z1_ e_
  subst e_
  intro z2_ e_
  subst e_
  intro z3_ e_
  subst e_
  exact k
def fx_X7_reach (a1 : Int32) (a2 : Int32) (a3 : Int32) (a4 : Int32) (z : tq_S) : Int32 := (if a3 = 0 then a4 else (if ((a1 + a2)) < 0 then a4 else (if (81 : Int32) ≤ ((a1 + a2)) then a4 else (if (tq_ai z 14 (Int32.toNatClampNeg ((a1 + a2)))) = (-9999 : Int32) then (if a4 < (81 : Int32) then (a4 + (1 : Int32)) else a4) else a4))))
def fz_X7_reach (a1 : Int32) (a2 : Int32) (a3 : Int32) (a4 : Int32) (z : tq_S) : tq_S := (if a3 = 0 then z else (if ((a1 + a2)) < 0 then z else (if (81 : Int32) ≤ ((a1 + a2)) then z else (if (tq_ai z 14 (Int32.toNatClampNeg ((a1 + a2)))) = (-9999 : Int32) then (if a4 < (81 : Int32) then (tq_sai (tq_sai z 14 (upd (tq_ai z 14) (Int32.toNatClampNeg ((a1 + a2))) ((tq_ai z 14 (Int32.toNatClampNeg a1)) + a3))) 15 (upd (tq_ai (tq_sai z 14 (upd (tq_ai z 14) (Int32.toNatClampNeg ((a1 + a2))) ((tq_ai z 14 (Int32.toNatClampNeg a1)) + a3))) 15) (Int32.toNatClampNeg a4) ((a1 + a2)))) else z) else z))))
def fg_X7_reach (a1 : Int32) (a2 : Int32) (a3 : Int32) (a4 : Int32) (z : tq_S) : Prop := (if a3 = 0 then True else (if ((a1 + a2)) < 0 then True else (if (81 : Int32) ≤ ((a1 + a2)) then True else (vp_in ((a1 + a2)) 81 ∧ (if (tq_ai z 14 (Int32.toNatClampNeg ((a1 + a2)))) = (-9999 : Int32) then (if a4 < (81 : Int32) then (vp_in a1 81 ∧ (vp_in ((a1 + a2)) 81 ∧ (vp_in a4 81))) else True) else True)))))
theorem fw_X7_reach {Q : tq_O → tq_S → Prop} {a1 : Int32} {a2 : Int32} {a3 : Int32} {a4 : Int32} {z : tq_S} (g : fg_X7_reach a1 a2 a3 a4 z) (k : Q (.inl (some (.int (fx_X7_reach a1 a2 a3 a4 z)))) (fz_X7_reach a1 a2 a3 a4 z)) : wm_X7_reach a1 a2 a3 a4 z Q := by
  unfold wm_X7_reach
  unfold fg_X7_reach at g
  unfold fx_X7_reach fz_X7_reach at k
  intro v1_ e_
  subst e_
  refine ⟨fun h1 => ?_, fun h1 => ?_⟩
  · simp only [if_pos h1] at k
    simp only [if_pos h1] at g
    clear g
    exact k
  · simp only [if_neg h1] at k
    simp only [if_neg h1] at g
    refine ⟨fun h2 => ?_, fun h2 => ?_⟩
    · simp only [if_pos h2] at k
      simp only [if_pos h2] at g
      clear g
      exact k
    · simp only [if_neg h2] at k
      simp only [if_neg h2] at g
      refine ⟨fun h3 => ?_, fun h3 => ?_⟩
      · simp only [if_pos h3] at k
        simp only [if_pos h3] at g
        clear g
        exact k
      · simp only [if_neg h3] at k
        simp only [if_neg h3] at g
        refine ⟨g.1, ?_⟩
        replace g := g.2
        refine ⟨fun h4 => ?_, fun h4 => ?_⟩
        · simp only [if_neg h4] at k
          simp only [if_neg h4] at g
          clear g
          exact k
        · simp only [if_pos h4] at k
          simp only [if_pos h4] at g
          refine ⟨fun h5 => ?_, fun h5 => ?_⟩
          · simp only [if_pos h5] at k
            simp only [if_pos h5] at g
            refine ⟨g.1, ?_⟩
            replace g := g.2
            refine ⟨g.1, ?_⟩
            replace g := g.2
            intro z2_ e_
            subst e_
            refine ⟨g, ?_⟩
            intro z3_ e_
            subst e_
            exact k
          · simp only [if_neg h5] at k
            simp only [if_neg h5] at g
            clear g
            exact k
def fx_X7_reach_r1 (a1 : Int32) (a2 : Int32) (a3 : Int32) (a4 : Int32) (z : tq_S) : Int32 := (if a3 = 0 then a4 else (if ((a1 + a2)) < 0 then a4 else (if (81 : Int32) ≤ ((a1 + a2)) then a4 else (if (tq_ai z 13 (Int32.toNatClampNeg ((a1 + a2)))) = (-9999 : Int32) then (if a4 < (81 : Int32) then (a4 + (1 : Int32)) else a4) else a4))))
def fz_X7_reach_r1 (a1 : Int32) (a2 : Int32) (a3 : Int32) (a4 : Int32) (z : tq_S) : tq_S := (if a3 = 0 then z else (if ((a1 + a2)) < 0 then z else (if (81 : Int32) ≤ ((a1 + a2)) then z else (if (tq_ai z 13 (Int32.toNatClampNeg ((a1 + a2)))) = (-9999 : Int32) then (if a4 < (81 : Int32) then (tq_sai (tq_sai z 13 (upd (tq_ai z 13) (Int32.toNatClampNeg ((a1 + a2))) ((tq_ai z 13 (Int32.toNatClampNeg a1)) + a3))) 15 (upd (tq_ai (tq_sai z 13 (upd (tq_ai z 13) (Int32.toNatClampNeg ((a1 + a2))) ((tq_ai z 13 (Int32.toNatClampNeg a1)) + a3))) 15) (Int32.toNatClampNeg a4) ((a1 + a2)))) else z) else z))))
def fg_X7_reach_r1 (a1 : Int32) (a2 : Int32) (a3 : Int32) (a4 : Int32) (z : tq_S) : Prop := (if a3 = 0 then True else (if ((a1 + a2)) < 0 then True else (if (81 : Int32) ≤ ((a1 + a2)) then True else (vp_in ((a1 + a2)) 81 ∧ (if (tq_ai z 13 (Int32.toNatClampNeg ((a1 + a2)))) = (-9999 : Int32) then (if a4 < (81 : Int32) then (vp_in a1 81 ∧ (vp_in ((a1 + a2)) 81 ∧ (vp_in a4 81))) else True) else True)))))
theorem fw_X7_reach_r1 {Q : tq_O → tq_S → Prop} {a1 : Int32} {a2 : Int32} {a3 : Int32} {a4 : Int32} {z : tq_S} (g : fg_X7_reach_r1 a1 a2 a3 a4 z) (k : Q (.inl (some (.int (fx_X7_reach_r1 a1 a2 a3 a4 z)))) (fz_X7_reach_r1 a1 a2 a3 a4 z)) : wm_X7_reach_r1 a1 a2 a3 a4 z Q := by
  unfold wm_X7_reach_r1
  unfold fg_X7_reach_r1 at g
  unfold fx_X7_reach_r1 fz_X7_reach_r1 at k
  intro v1_ e_
  subst e_
  refine ⟨fun h1 => ?_, fun h1 => ?_⟩
  · simp only [if_pos h1] at k
    simp only [if_pos h1] at g
    clear g
    exact k
  · simp only [if_neg h1] at k
    simp only [if_neg h1] at g
    refine ⟨fun h2 => ?_, fun h2 => ?_⟩
    · simp only [if_pos h2] at k
      simp only [if_pos h2] at g
      clear g
      exact k
    · simp only [if_neg h2] at k
      simp only [if_neg h2] at g
      refine ⟨fun h3 => ?_, fun h3 => ?_⟩
      · simp only [if_pos h3] at k
        simp only [if_pos h3] at g
        clear g
        exact k
      · simp only [if_neg h3] at k
        simp only [if_neg h3] at g
        refine ⟨g.1, ?_⟩
        replace g := g.2
        refine ⟨fun h4 => ?_, fun h4 => ?_⟩
        · simp only [if_neg h4] at k
          simp only [if_neg h4] at g
          clear g
          exact k
        · simp only [if_pos h4] at k
          simp only [if_pos h4] at g
          refine ⟨fun h5 => ?_, fun h5 => ?_⟩
          · simp only [if_pos h5] at k
            simp only [if_pos h5] at g
            refine ⟨g.1, ?_⟩
            replace g := g.2
            refine ⟨g.1, ?_⟩
            replace g := g.2
            intro z2_ e_
            subst e_
            refine ⟨g, ?_⟩
            intro z3_ e_
            subst e_
            exact k
          · simp only [if_neg h5] at k
            simp only [if_neg h5] at g
            clear g
            exact k
def fx_J9_abs_0f7a4 (a0 : Int32) (z : tq_S) : Int32 := (if 0 ≤ a0 then a0 else (-a0))
theorem fw_J9_abs_0f7a4 {Q : tq_O → tq_S → Prop} {a0 : Int32} {z : tq_S} (k : Q (.inl (some (.int (fx_J9_abs_0f7a4 a0 z)))) z) : wm_J9_abs_0f7a4 a0 z Q := by
  unfold wm_J9_abs_0f7a4
  unfold fx_J9_abs_0f7a4 at k
  refine ⟨fun h1 => ?_, fun h1 => ?_⟩
  · simp only [if_pos h1] at k
    exact k
  · simp only [if_neg h1] at k
    exact k
def fx_X8_bit (a0 : Int32) (a1 : Int32) (z : tq_S) : Int64 := ((1 : Int64) <<< ((Int32.toInt64 (((6 : Int32) * a1) + a0)) &&& 63))
theorem fw_X8_bit {Q : tq_O → tq_S → Prop} {a0 : Int32} {a1 : Int32} {z : tq_S} (k : Q (.inl (some (.long (fx_X8_bit a0 a1 z)))) z) : wm_X8_bit a0 a1 z Q := by
  unfold wm_X8_bit
  unfold fx_X8_bit at k
  exact k
def fz_X8_dropAll  (z : tq_S) : tq_S := (tq_sfi (tq_sfi (tq_sfl z 1476 (0 : Int64)) 1477 (0 : Int32)) 1478 ((tq_fi (tq_sfi (tq_sfl z 1476 (0 : Int64)) 1477 (0 : Int32)) 1478) + (1 : Int32)))
theorem fw_X8_dropAll {Q : tq_O → tq_S → Prop}  {z : tq_S} (k : Q (.inl none) (fz_X8_dropAll  z)) : wm_X8_dropAll  z Q := by
  unfold wm_X8_dropAll
  unfold fz_X8_dropAll at k
  intro z1_ e_
  subst e_
  intro z2_ e_
  subst e_
  intro z3_ e_
  subst e_
  exact k
def fx_J9_floorMod_7cf53 (a0 : Int32) (a1 : Int32) (z : tq_S) : Int32 := (if 0 ≤ (a0 ^^^ a1) then ((a0 - a0 / a1 * a1)) else (if ((a0 - a0 / a1 * a1)) = 0 then ((a0 - a0 / a1 * a1)) else (((a0 - a0 / a1 * a1)) + a1)))
def fg_J9_floorMod_7cf53 (a0 : Int32) (a1 : Int32) (z : tq_S) : Prop := ((¬ a1 = 0))
theorem fw_J9_floorMod_7cf53 {Q : tq_O → tq_S → Prop} {a0 : Int32} {a1 : Int32} {z : tq_S} (g : fg_J9_floorMod_7cf53 a0 a1 z) (k : Q (.inl (some (.int (fx_J9_floorMod_7cf53 a0 a1 z)))) z) : wm_J9_floorMod_7cf53 a0 a1 z Q := by
  unfold wm_J9_floorMod_7cf53
  unfold fg_J9_floorMod_7cf53 at g
  unfold fx_J9_floorMod_7cf53 at k
  refine ⟨g, ?_⟩
  intro v1_ e_
  subst e_
  refine ⟨fun h1 => ?_, fun h1 => ?_⟩
  · simp only [if_pos h1] at k
    exact k
  · simp only [if_neg h1] at k
    refine ⟨fun h2 => ?_, fun h2 => ?_⟩
    · simp only [if_pos h2] at k
      exact k
    · simp only [if_neg h2] at k
      exact k
def fx_X4_isAhead (a0 : Int64) (a2 : Int64) (z : tq_S) : Int32 := (if ((a0 &&& (((a0 ^^^ a2) &&& (16777215 : Int64)))) &&& (-(((a0 ^^^ a2) &&& (16777215 : Int64))))) = (0 : Int64) then (0 : Int32) else (1 : Int32))
theorem fw_X4_isAhead {Q : tq_O → tq_S → Prop} {a0 : Int64} {a2 : Int64} {z : tq_S} (k : Q (.inl (some (.int (fx_X4_isAhead a0 a2 z)))) z) : wm_X4_isAhead a0 a2 z Q := by
  unfold wm_X4_isAhead
  unfold fx_X4_isAhead at k
  intro v1_ e_
  subst e_
  refine ⟨fun h1 => ?_, fun h1 => ?_⟩
  · simp only [if_pos h1] at k
    exact k
  · simp only [if_neg h1] at k
    exact k
def fx_J9_max_f86c9 (a0 : Int64) (a2 : Int64) (z : tq_S) : Int64 := (if a0 < a2 then a2 else a0)
theorem fw_J9_max_f86c9 {Q : tq_O → tq_S → Prop} {a0 : Int64} {a2 : Int64} {z : tq_S} (k : Q (.inl (some (.long (fx_J9_max_f86c9 a0 a2 z)))) z) : wm_J9_max_f86c9 a0 a2 z Q := by
  unfold wm_J9_max_f86c9
  unfold fx_J9_max_f86c9 at k
  refine ⟨fun h1 => ?_, fun h1 => ?_⟩
  · simp only [if_pos h1] at k
    exact k
  · simp only [if_neg h1] at k
    exact k
def fx_X6_orderOf (a0 : Int32) (z : tq_S) : Int32 := ((tq_ends.getD (Int32.toNatClampNeg a0) 0) - (tq_ends.getD (Int32.toNatClampNeg (a0 - (1 : Int32))) 0))
def fg_X6_orderOf (a0 : Int32) (z : tq_S) : Prop := (vp_in a0 tq_ends.length ∧ (vp_in (a0 - (1 : Int32)) tq_ends.length))
theorem fw_X6_orderOf {Q : tq_O → tq_S → Prop} {a0 : Int32} {z : tq_S} (g : fg_X6_orderOf a0 z) (k : Q (.inl (some (.int (fx_X6_orderOf a0 z)))) z) : wm_X6_orderOf a0 z Q := by
  unfold wm_X6_orderOf
  unfold fg_X6_orderOf at g
  unfold fx_X6_orderOf at k
  refine ⟨g.1, ?_⟩
  replace g := g.2
  refine ⟨g, ?_⟩
  exact k
def fx_X6_factor (a0 : Int32) (a1 : Int32) (z : tq_S) : Int32 := (tq_facs.getD (Int32.toNatClampNeg (((tq_ends.getD (Int32.toNatClampNeg (a0 - (1 : Int32))) 0) + a1) - (1 : Int32))) 0)
def fg_X6_factor (a0 : Int32) (a1 : Int32) (z : tq_S) : Prop := (vp_in (a0 - (1 : Int32)) tq_ends.length ∧ (vp_in (((tq_ends.getD (Int32.toNatClampNeg (a0 - (1 : Int32))) 0) + a1) - (1 : Int32)) tq_facs.length))
theorem fw_X6_factor {Q : tq_O → tq_S → Prop} {a0 : Int32} {a1 : Int32} {z : tq_S} (g : fg_X6_factor a0 a1 z) (k : Q (.inl (some (.int (fx_X6_factor a0 a1 z)))) z) : wm_X6_factor a0 a1 z Q := by
  unfold wm_X6_factor
  unfold fg_X6_factor at g
  unfold fx_X6_factor at k
  refine ⟨g.1, ?_⟩
  replace g := g.2
  refine ⟨g, ?_⟩
  exact k
def fx_J9_floorDiv_f86c9 (a0 : Int64) (a2 : Int64) (z : tq_S) : Int64 := (if (0 : Int64) ≤ (a0 ^^^ a2) then ((a0 / a2)) else (if (((a0 / a2)) * a2) = a0 then ((a0 / a2)) else (((a0 / a2)) - (1 : Int64))))
def fg_J9_floorDiv_f86c9 (a0 : Int64) (a2 : Int64) (z : tq_S) : Prop := ((¬ a2 = 0))
theorem fw_J9_floorDiv_f86c9 {Q : tq_O → tq_S → Prop} {a0 : Int64} {a2 : Int64} {z : tq_S} (g : fg_J9_floorDiv_f86c9 a0 a2 z) (k : Q (.inl (some (.long (fx_J9_floorDiv_f86c9 a0 a2 z)))) z) : wm_J9_floorDiv_f86c9 a0 a2 z Q := by
  unfold wm_J9_floorDiv_f86c9
  unfold fg_J9_floorDiv_f86c9 at g
  unfold fx_J9_floorDiv_f86c9 at k
  refine ⟨g, ?_⟩
  intro v1_ e_
  subst e_
  refine ⟨fun h1 => ?_, fun h1 => ?_⟩
  · simp only [if_pos h1] at k
    exact k
  · simp only [if_neg h1] at k
    refine ⟨fun h2 => ?_, fun h2 => ?_⟩
    · simp only [if_pos h2] at k
      exact k
    · simp only [if_neg h2] at k
      exact k
def fx_J6_bitCount_0f7a4 (a0 : Int32) (z : tq_S) : Int32 := (((((((((((((a0 - (((Int32.toUInt32 a0) >>> ((Int32.toUInt32 (1 : Int32)) &&& Int32.toUInt32 31)).toInt32 &&& (1431655765 : Int32)))) &&& (858993459 : Int32)) + (((Int32.toUInt32 ((a0 - (((Int32.toUInt32 a0) >>> ((Int32.toUInt32 (1 : Int32)) &&& Int32.toUInt32 31)).toInt32 &&& (1431655765 : Int32))))) >>> ((Int32.toUInt32 (2 : Int32)) &&& Int32.toUInt32 31)).toInt32 &&& (858993459 : Int32)))) + ((Int32.toUInt32 (((((a0 - (((Int32.toUInt32 a0) >>> ((Int32.toUInt32 (1 : Int32)) &&& Int32.toUInt32 31)).toInt32 &&& (1431655765 : Int32)))) &&& (858993459 : Int32)) + (((Int32.toUInt32 ((a0 - (((Int32.toUInt32 a0) >>> ((Int32.toUInt32 (1 : Int32)) &&& Int32.toUInt32 31)).toInt32 &&& (1431655765 : Int32))))) >>> ((Int32.toUInt32 (2 : Int32)) &&& Int32.toUInt32 31)).toInt32 &&& (858993459 : Int32))))) >>> ((Int32.toUInt32 (4 : Int32)) &&& Int32.toUInt32 31)).toInt32) &&& (252645135 : Int32))) + ((Int32.toUInt32 ((((((((a0 - (((Int32.toUInt32 a0) >>> ((Int32.toUInt32 (1 : Int32)) &&& Int32.toUInt32 31)).toInt32 &&& (1431655765 : Int32)))) &&& (858993459 : Int32)) + (((Int32.toUInt32 ((a0 - (((Int32.toUInt32 a0) >>> ((Int32.toUInt32 (1 : Int32)) &&& Int32.toUInt32 31)).toInt32 &&& (1431655765 : Int32))))) >>> ((Int32.toUInt32 (2 : Int32)) &&& Int32.toUInt32 31)).toInt32 &&& (858993459 : Int32)))) + ((Int32.toUInt32 (((((a0 - (((Int32.toUInt32 a0) >>> ((Int32.toUInt32 (1 : Int32)) &&& Int32.toUInt32 31)).toInt32 &&& (1431655765 : Int32)))) &&& (858993459 : Int32)) + (((Int32.toUInt32 ((a0 - (((Int32.toUInt32 a0) >>> ((Int32.toUInt32 (1 : Int32)) &&& Int32.toUInt32 31)).toInt32 &&& (1431655765 : Int32))))) >>> ((Int32.toUInt32 (2 : Int32)) &&& Int32.toUInt32 31)).toInt32 &&& (858993459 : Int32))))) >>> ((Int32.toUInt32 (4 : Int32)) &&& Int32.toUInt32 31)).toInt32) &&& (252645135 : Int32)))) >>> ((Int32.toUInt32 (8 : Int32)) &&& Int32.toUInt32 31)).toInt32)) + ((Int32.toUInt32 ((((((((((a0 - (((Int32.toUInt32 a0) >>> ((Int32.toUInt32 (1 : Int32)) &&& Int32.toUInt32 31)).toInt32 &&& (1431655765 : Int32)))) &&& (858993459 : Int32)) + (((Int32.toUInt32 ((a0 - (((Int32.toUInt32 a0) >>> ((Int32.toUInt32 (1 : Int32)) &&& Int32.toUInt32 31)).toInt32 &&& (1431655765 : Int32))))) >>> ((Int32.toUInt32 (2 : Int32)) &&& Int32.toUInt32 31)).toInt32 &&& (858993459 : Int32)))) + ((Int32.toUInt32 (((((a0 - (((Int32.toUInt32 a0) >>> ((Int32.toUInt32 (1 : Int32)) &&& Int32.toUInt32 31)).toInt32 &&& (1431655765 : Int32)))) &&& (858993459 : Int32)) + (((Int32.toUInt32 ((a0 - (((Int32.toUInt32 a0) >>> ((Int32.toUInt32 (1 : Int32)) &&& Int32.toUInt32 31)).toInt32 &&& (1431655765 : Int32))))) >>> ((Int32.toUInt32 (2 : Int32)) &&& Int32.toUInt32 31)).toInt32 &&& (858993459 : Int32))))) >>> ((Int32.toUInt32 (4 : Int32)) &&& Int32.toUInt32 31)).toInt32) &&& (252645135 : Int32))) + ((Int32.toUInt32 ((((((((a0 - (((Int32.toUInt32 a0) >>> ((Int32.toUInt32 (1 : Int32)) &&& Int32.toUInt32 31)).toInt32 &&& (1431655765 : Int32)))) &&& (858993459 : Int32)) + (((Int32.toUInt32 ((a0 - (((Int32.toUInt32 a0) >>> ((Int32.toUInt32 (1 : Int32)) &&& Int32.toUInt32 31)).toInt32 &&& (1431655765 : Int32))))) >>> ((Int32.toUInt32 (2 : Int32)) &&& Int32.toUInt32 31)).toInt32 &&& (858993459 : Int32)))) + ((Int32.toUInt32 (((((a0 - (((Int32.toUInt32 a0) >>> ((Int32.toUInt32 (1 : Int32)) &&& Int32.toUInt32 31)).toInt32 &&& (1431655765 : Int32)))) &&& (858993459 : Int32)) + (((Int32.toUInt32 ((a0 - (((Int32.toUInt32 a0) >>> ((Int32.toUInt32 (1 : Int32)) &&& Int32.toUInt32 31)).toInt32 &&& (1431655765 : Int32))))) >>> ((Int32.toUInt32 (2 : Int32)) &&& Int32.toUInt32 31)).toInt32 &&& (858993459 : Int32))))) >>> ((Int32.toUInt32 (4 : Int32)) &&& Int32.toUInt32 31)).toInt32) &&& (252645135 : Int32)))) >>> ((Int32.toUInt32 (8 : Int32)) &&& Int32.toUInt32 31)).toInt32))) >>> ((Int32.toUInt32 (16 : Int32)) &&& Int32.toUInt32 31)).toInt32)) &&& (63 : Int32))
theorem fw_J6_bitCount_0f7a4 {Q : tq_O → tq_S → Prop} {a0 : Int32} {z : tq_S} (k : Q (.inl (some (.int (fx_J6_bitCount_0f7a4 a0 z)))) z) : wm_J6_bitCount_0f7a4 a0 z Q := by
  unfold wm_J6_bitCount_0f7a4
  unfold fx_J6_bitCount_0f7a4 at k
  intro v1_ e_
  subst e_
  intro v2_ e_
  subst e_
  intro v3_ e_
  subst e_
  intro v4_ e_
  subst e_
  intro v5_ e_
  subst e_
  exact k
