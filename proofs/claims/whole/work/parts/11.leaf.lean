def fx_X12_thrown  (z : tq_S) : Int32 := (tq_fi z 3264)
theorem fw_X12_thrown {Q : tq_O → tq_S → Prop}  {z : tq_S} (k : Q (.inl (some (.int (fx_X12_thrown  z)))) z) : wm_X12_thrown  z Q := by
  unfold wm_X12_thrown
  unfold fx_X12_thrown at k
  exact k
def fx_X12_isThrown (a1 : Int32) (a2 : Int32) (z : tq_S) : Int32 := (if a1 = 0 then a1 else a1)
def fz_X12_isThrown (a1 : Int32) (a2 : Int32) (z : tq_S) : tq_S := (if a1 = 0 then (tq_sfi z 3264 (0 : Int32)) else (tq_sfi z 3264 a2))
def fg_X12_isThrown (a1 : Int32) (a2 : Int32) (z : tq_S) : Prop := (if a1 = 0 then (tq_nz a1) else (tq_nz a1))
theorem fw_X12_isThrown {Q : tq_O → tq_S → Prop} {a1 : Int32} {a2 : Int32} {z : tq_S} (g : fg_X12_isThrown a1 a2 z) (k : Q (.inl (some (.int (fx_X12_isThrown a1 a2 z)))) (fz_X12_isThrown a1 a2 z)) : wm_X12_isThrown a1 a2 z Q := by
  unfold wm_X12_isThrown
  unfold fg_X12_isThrown at g
  unfold fx_X12_isThrown fz_X12_isThrown at k
  refine ⟨fun h1 => ?_, fun h1 => ?_⟩
  · try rw [if_pos h1] at k
    try rw [if_pos h1] at k
    try rw [if_pos h1] at g
    unfold wc_X12_isThrown_10
    intro z101_ e_
    subst e_
    refine ⟨g, ?_⟩
    exact k
  · try rw [if_neg h1] at k
    try rw [if_neg h1] at k
    try rw [if_neg h1] at g
    unfold wc_X12_isThrown_10
    intro z101_ e_
    subst e_
    refine ⟨g, ?_⟩
    exact k
def fz_X12_anew  (z : tq_S) : tq_S := (tq_sfi (tq_sfi (tq_sfi z 3272 (0 : Int32)) 3274 (0 : Int32)) 3276 (0 : Int32))
theorem fw_X12_anew {Q : tq_O → tq_S → Prop}  {z : tq_S} (k : Q (.inl none) (fz_X12_anew  z)) : wm_X12_anew  z Q := by
  unfold wm_X12_anew
  unfold fz_X12_anew at k
  intro z1_ e_
  subst e_
  intro z2_ e_
  subst e_
  intro z3_ e_
  subst e_
  exact k
def fx_X12_isIn (a0 : Int32) (a1 : Int32) (a2 : Int32) (z : tq_S) : Int32 := (if a0 < a1 then (0 : Int32) else (if a2 < a0 then (0 : Int32) else (1 : Int32)))
theorem fw_X12_isIn {Q : tq_O → tq_S → Prop} {a0 : Int32} {a1 : Int32} {a2 : Int32} {z : tq_S} (k : Q (.inl (some (.int (fx_X12_isIn a0 a1 a2 z)))) z) : wm_X12_isIn a0 a1 a2 z Q := by
  unfold wm_X12_isIn
  unfold fx_X12_isIn at k
  refine ⟨fun h1 => ?_, fun h1 => ?_⟩
  · try rw [if_pos h1] at k
    exact k
  · try rw [if_neg h1] at k
    refine ⟨fun h2 => ?_, fun h2 => ?_⟩
    · try rw [if_pos h2] at k
      exact k
    · try rw [if_neg h2] at k
      exact k
def fx_X12_isCell (a1 : Int32) (a2 : Int32) (z : tq_S) : Int32 := (if (fx_X12_isIn a1 (0 : Int32) ((tq_fi z 3265) - (1 : Int32)) z) = 0 then (0 : Int32) else (if (fx_X12_isIn a2 (0 : Int32) ((tq_fi z 3266) - (1 : Int32)) z) = 0 then (0 : Int32) else (if (tq_ai z 52 (Int32.toNatClampNeg (((8 : Int32) * a2) + a1))) = 0 then (0 : Int32) else (1 : Int32))))
def fg_X12_isCell (a1 : Int32) (a2 : Int32) (z : tq_S) : Prop := (if (fx_X12_isIn a1 (0 : Int32) ((tq_fi z 3265) - (1 : Int32)) z) = 0 then True else (if (fx_X12_isIn a2 (0 : Int32) ((tq_fi z 3266) - (1 : Int32)) z) = 0 then True else (vp_in (((8 : Int32) * a2) + a1) 64)))
theorem fw_X12_isCell {Q : tq_O → tq_S → Prop} {a1 : Int32} {a2 : Int32} {z : tq_S} (g : fg_X12_isCell a1 a2 z) (k : Q (.inl (some (.int (fx_X12_isCell a1 a2 z)))) z) : wm_X12_isCell a1 a2 z Q := by
  unfold wm_X12_isCell
  unfold fg_X12_isCell at g
  unfold fx_X12_isCell at k
  refine fw_X12_isIn ⟨_, rfl, ?_⟩
  refine ⟨fun h1 => ?_, fun h1 => ?_⟩
  · try rw [if_pos h1] at k
    try rw [if_pos h1] at g
    clear g
    exact k
  · try rw [if_neg h1] at k
    try rw [if_neg h1] at g
    refine fw_X12_isIn ⟨_, rfl, ?_⟩
    refine ⟨fun h2 => ?_, fun h2 => ?_⟩
    · try rw [if_pos h2] at k
      try rw [if_pos h2] at g
      clear g
      exact k
    · try rw [if_neg h2] at k
      try rw [if_neg h2] at g
      refine ⟨g, ?_⟩
      refine ⟨fun h3 => ?_, fun h3 => ?_⟩
      · try rw [if_pos h3] at k
        exact k
      · try rw [if_neg h3] at k
        exact k
def fx_X12_has (a1 : Int32) (a2 : Int32) (z : tq_S) : Int32 := (fx_X12_isCell a1 a2 (tq_sfi z 3264 (0 : Int32)))
def fz_X12_has (a1 : Int32) (a2 : Int32) (z : tq_S) : tq_S := (tq_sfi z 3264 (0 : Int32))
def fg_X12_has (a1 : Int32) (a2 : Int32) (z : tq_S) : Prop := ((fg_X12_isCell a1 a2 (tq_sfi z 3264 (0 : Int32))) ∧ (tq_nz (fx_X12_isCell a1 a2 (tq_sfi z 3264 (0 : Int32)))))
theorem fw_X12_has {Q : tq_O → tq_S → Prop} {a1 : Int32} {a2 : Int32} {z : tq_S} (g : fg_X12_has a1 a2 z) (k : Q (.inl (some (.int (fx_X12_has a1 a2 z)))) (fz_X12_has a1 a2 z)) : wm_X12_has a1 a2 z Q := by
  unfold wm_X12_has
  unfold fg_X12_has at g
  unfold fx_X12_has fz_X12_has at k
  intro z1_ e_
  subst e_
  refine fw_X12_isCell g.1 ⟨_, rfl, ?_⟩
  replace g := g.2
  refine ⟨g, ?_⟩
  exact k
def fx_X12_roll (a1 : Int32) (z : tq_S) : Int32 := (if a1 = 0 then (if (fx_X12_isThrown (0 : Int32) (1 : Int32) z) = 0 then ((tq_fi (fz_X12_isThrown (0 : Int32) (1 : Int32) z) 3267)) else (0 : Int32)) else (if ((tq_fi z 3265) - (tq_fi z 3265) / (2 : Int32) * (2 : Int32)) = (1 : Int32) then (if (fx_X12_isThrown (1 : Int32) (1 : Int32) z) = 0 then ((tq_fi (fz_X12_isThrown (1 : Int32) (1 : Int32) z) 3267)) else (0 : Int32)) else (if (4 : Int32) ≤ (tq_fi z 3265) then (if (fx_X12_isThrown (0 : Int32) (1 : Int32) z) = 0 then ((tq_fi (fz_X12_isThrown (0 : Int32) (1 : Int32) z) 3267)) else (0 : Int32)) else (if (fx_X12_isThrown (1 : Int32) (1 : Int32) z) = 0 then ((tq_fi (fz_X12_isThrown (1 : Int32) (1 : Int32) z) 3267)) else (0 : Int32)))))
def fz_X12_roll (a1 : Int32) (z : tq_S) : tq_S := (if a1 = 0 then (if (fx_X12_isThrown (0 : Int32) (1 : Int32) z) = 0 then (fz_X12_anew (tq_sfi (fz_X12_isThrown (0 : Int32) (1 : Int32) z) 3267 a1)) else (fz_X12_isThrown (0 : Int32) (1 : Int32) z)) else (if ((tq_fi z 3265) - (tq_fi z 3265) / (2 : Int32) * (2 : Int32)) = (1 : Int32) then (if (fx_X12_isThrown (1 : Int32) (1 : Int32) z) = 0 then (fz_X12_anew (tq_sfi (fz_X12_isThrown (1 : Int32) (1 : Int32) z) 3267 a1)) else (fz_X12_isThrown (1 : Int32) (1 : Int32) z)) else (if (4 : Int32) ≤ (tq_fi z 3265) then (if (fx_X12_isThrown (0 : Int32) (1 : Int32) z) = 0 then (fz_X12_anew (tq_sfi (fz_X12_isThrown (0 : Int32) (1 : Int32) z) 3267 a1)) else (fz_X12_isThrown (0 : Int32) (1 : Int32) z)) else (if (fx_X12_isThrown (1 : Int32) (1 : Int32) z) = 0 then (fz_X12_anew (tq_sfi (fz_X12_isThrown (1 : Int32) (1 : Int32) z) 3267 a1)) else (fz_X12_isThrown (1 : Int32) (1 : Int32) z)))))
def fg_X12_roll (a1 : Int32) (z : tq_S) : Prop := (if a1 = 0 then ((fg_X12_isThrown (0 : Int32) (1 : Int32) z) ∧ (if (fx_X12_isThrown (0 : Int32) (1 : Int32) z) = 0 then (tq_nz a1 ∧ (tq_nz ((tq_fi (fz_X12_isThrown (0 : Int32) (1 : Int32) z) 3267)))) else True)) else (if ((tq_fi z 3265) - (tq_fi z 3265) / (2 : Int32) * (2 : Int32)) = (1 : Int32) then ((fg_X12_isThrown (1 : Int32) (1 : Int32) z) ∧ (if (fx_X12_isThrown (1 : Int32) (1 : Int32) z) = 0 then (tq_nz a1 ∧ (tq_nz ((tq_fi (fz_X12_isThrown (1 : Int32) (1 : Int32) z) 3267)))) else True)) else (if (4 : Int32) ≤ (tq_fi z 3265) then ((fg_X12_isThrown (0 : Int32) (1 : Int32) z) ∧ (if (fx_X12_isThrown (0 : Int32) (1 : Int32) z) = 0 then (tq_nz a1 ∧ (tq_nz ((tq_fi (fz_X12_isThrown (0 : Int32) (1 : Int32) z) 3267)))) else True)) else ((fg_X12_isThrown (1 : Int32) (1 : Int32) z) ∧ (if (fx_X12_isThrown (1 : Int32) (1 : Int32) z) = 0 then (tq_nz a1 ∧ (tq_nz ((tq_fi (fz_X12_isThrown (1 : Int32) (1 : Int32) z) 3267)))) else True)))))
theorem fw_X12_roll {Q : tq_O → tq_S → Prop} {a1 : Int32} {z : tq_S} (g : fg_X12_roll a1 z) (k : Q (.inl (some (.int (fx_X12_roll a1 z)))) (fz_X12_roll a1 z)) : wm_X12_roll a1 z Q := by
  unfold wm_X12_roll
  unfold fg_X12_roll at g
  unfold fx_X12_roll fz_X12_roll at k
  refine ⟨fun h1 => ?_, fun h1 => ?_⟩
  · try rw [if_pos h1] at k
    try rw [if_pos h1] at k
    try rw [if_pos h1] at g
    unfold wc_X12_roll_27
    unfold wc_X12_roll_28
    refine fw_X12_isThrown g.1 ⟨_, rfl, ?_⟩
    replace g := g.2
    refine ⟨fun h2 => ?_, fun h2 => ?_⟩
    · try rw [if_pos h2] at k
      try rw [if_pos h2] at k
      try rw [if_pos h2] at g
      intro v103_ e_
      subst e_
      refine ⟨g.1, ?_⟩
      replace g := g.2
      intro z104_ e_
      subst e_
      refine fw_X12_anew ⟨rfl, ?_⟩
      refine ⟨g, ?_⟩
      exact k
    · try rw [if_neg h2] at k
      try rw [if_neg h2] at k
      try rw [if_neg h2] at g
      clear g
      exact k
  · try rw [if_neg h1] at k
    try rw [if_neg h1] at k
    try rw [if_neg h1] at g
    refine ⟨fun h3 => ?_, fun h3 => ?_⟩
    · try rw [if_pos h3] at k
      try rw [if_pos h3] at k
      try rw [if_pos h3] at g
      unfold wc_X12_roll_23
      unfold wc_X12_roll_28
      refine fw_X12_isThrown g.1 ⟨_, rfl, ?_⟩
      replace g := g.2
      refine ⟨fun h4 => ?_, fun h4 => ?_⟩
      · try rw [if_pos h4] at k
        try rw [if_pos h4] at k
        try rw [if_pos h4] at g
        intro v103_ e_
        subst e_
        refine ⟨g.1, ?_⟩
        replace g := g.2
        intro z104_ e_
        subst e_
        refine fw_X12_anew ⟨rfl, ?_⟩
        refine ⟨g, ?_⟩
        exact k
      · try rw [if_neg h4] at k
        try rw [if_neg h4] at k
        try rw [if_neg h4] at g
        clear g
        exact k
    · try rw [if_neg h3] at k
      try rw [if_neg h3] at k
      try rw [if_neg h3] at g
      refine ⟨fun h5 => ?_, fun h5 => ?_⟩
      · try rw [if_pos h5] at k
        try rw [if_pos h5] at k
        try rw [if_pos h5] at g
        unfold wc_X12_roll_27
        unfold wc_X12_roll_28
        refine fw_X12_isThrown g.1 ⟨_, rfl, ?_⟩
        replace g := g.2
        refine ⟨fun h6 => ?_, fun h6 => ?_⟩
        · try rw [if_pos h6] at k
          try rw [if_pos h6] at k
          try rw [if_pos h6] at g
          intro v103_ e_
          subst e_
          refine ⟨g.1, ?_⟩
          replace g := g.2
          intro z104_ e_
          subst e_
          refine fw_X12_anew ⟨rfl, ?_⟩
          refine ⟨g, ?_⟩
          exact k
        · try rw [if_neg h6] at k
          try rw [if_neg h6] at k
          try rw [if_neg h6] at g
          clear g
          exact k
      · try rw [if_neg h5] at k
        try rw [if_neg h5] at k
        try rw [if_neg h5] at g
        unfold wc_X12_roll_23
        unfold wc_X12_roll_28
        refine fw_X12_isThrown g.1 ⟨_, rfl, ?_⟩
        replace g := g.2
        refine ⟨fun h7 => ?_, fun h7 => ?_⟩
        · try rw [if_pos h7] at k
          try rw [if_pos h7] at k
          try rw [if_pos h7] at g
          intro v103_ e_
          subst e_
          refine ⟨g.1, ?_⟩
          replace g := g.2
          intro z104_ e_
          subst e_
          refine fw_X12_anew ⟨rfl, ?_⟩
          refine ⟨g, ?_⟩
          exact k
        · try rw [if_neg h7] at k
          try rw [if_neg h7] at k
          try rw [if_neg h7] at g
          clear g
          exact k
def fx_X12_isDark (a0 : Int32) (a1 : Int32) (z : tq_S) : Int32 := (if ((a0 + a1) &&& (1 : Int32)) = 0 then (1 : Int32) else (0 : Int32))
theorem fw_X12_isDark {Q : tq_O → tq_S → Prop} {a0 : Int32} {a1 : Int32} {z : tq_S} (k : Q (.inl (some (.int (fx_X12_isDark a0 a1 z)))) z) : wm_X12_isDark a0 a1 z Q := by
  unfold wm_X12_isDark
  unfold fx_X12_isDark at k
  refine ⟨fun h1 => ?_, fun h1 => ?_⟩
  · try rw [if_neg h1] at k
    exact k
  · try rw [if_pos h1] at k
    exact k
def fz_X12_see (a1 : Int32) (z : tq_S) : tq_S := (tq_sfi (tq_sai (tq_sai z 61 (upd (tq_ai z 61) (Int32.toNatClampNeg a1) (vp_nar .boolean (1 : Int32)))) 62 (upd (tq_ai (tq_sai z 61 (upd (tq_ai z 61) (Int32.toNatClampNeg a1) (vp_nar .boolean (1 : Int32)))) 62) (Int32.toNatClampNeg (tq_fi (tq_sai z 61 (upd (tq_ai z 61) (Int32.toNatClampNeg a1) (vp_nar .boolean (1 : Int32)))) 3282)) a1)) 3282 ((tq_fi (tq_sai (tq_sai z 61 (upd (tq_ai z 61) (Int32.toNatClampNeg a1) (vp_nar .boolean (1 : Int32)))) 62 (upd (tq_ai (tq_sai z 61 (upd (tq_ai z 61) (Int32.toNatClampNeg a1) (vp_nar .boolean (1 : Int32)))) 62) (Int32.toNatClampNeg (tq_fi (tq_sai z 61 (upd (tq_ai z 61) (Int32.toNatClampNeg a1) (vp_nar .boolean (1 : Int32)))) 3282)) a1)) 3282) + (1 : Int32)))
def fg_X12_see (a1 : Int32) (z : tq_S) : Prop := (vp_in a1 64 ∧ (vp_in (tq_fi (tq_sai z 61 (upd (tq_ai z 61) (Int32.toNatClampNeg a1) (vp_nar .boolean (1 : Int32)))) 3282) 64))
theorem fw_X12_see {Q : tq_O → tq_S → Prop} {a1 : Int32} {z : tq_S} (g : fg_X12_see a1 z) (k : Q (.inl none) (fz_X12_see a1 z)) : wm_X12_see a1 z Q := by
  unfold wm_X12_see
  unfold fg_X12_see at g
  unfold fz_X12_see at k
  refine ⟨g.1, ?_⟩
  replace g := g.2
  intro z1_ e_
  subst e_
  refine ⟨g, ?_⟩
  intro z2_ e_
  subst e_
  intro z3_ e_
  subst e_
  exact k
def fx_X12_isLeft (a1 : Int32) (a2 : Int32) (z : tq_S) : Int32 := (if (tq_fi z 3265) ≤ a1 then (0 : Int32) else (if (tq_fi z 3266) ≤ a2 then (0 : Int32) else (if (tq_ai z 53 (Int32.toNatClampNeg (((8 : Int32) * a2) + a1))) = 0 then (0 : Int32) else (1 : Int32))))
def fg_X12_isLeft (a1 : Int32) (a2 : Int32) (z : tq_S) : Prop := (if (tq_fi z 3265) ≤ a1 then True else (if (tq_fi z 3266) ≤ a2 then True else (vp_in (((8 : Int32) * a2) + a1) 64)))
theorem fw_X12_isLeft {Q : tq_O → tq_S → Prop} {a1 : Int32} {a2 : Int32} {z : tq_S} (g : fg_X12_isLeft a1 a2 z) (k : Q (.inl (some (.int (fx_X12_isLeft a1 a2 z)))) z) : wm_X12_isLeft a1 a2 z Q := by
  unfold wm_X12_isLeft
  unfold fg_X12_isLeft at g
  unfold fx_X12_isLeft at k
  refine ⟨fun h1 => ?_, fun h1 => ?_⟩
  · try rw [if_pos h1] at k
    try rw [if_pos h1] at g
    clear g
    exact k
  · try rw [if_neg h1] at k
    try rw [if_neg h1] at g
    refine ⟨fun h2 => ?_, fun h2 => ?_⟩
    · try rw [if_pos h2] at k
      try rw [if_pos h2] at g
      clear g
      exact k
    · try rw [if_neg h2] at k
      try rw [if_neg h2] at g
      refine ⟨g, ?_⟩
      refine ⟨fun h3 => ?_, fun h3 => ?_⟩
      · try rw [if_pos h3] at k
        exact k
      · try rw [if_neg h3] at k
        exact k
def fz_X12_putSign (a1 : Int32) (z : tq_S) : tq_S := (tq_sfi (tq_sai z 60 (upd (tq_ai z 60) (Int32.toNatClampNeg (tq_fi z 3279)) (vp_nar .char ((Int32.toUInt32 a1) % 65536).toInt32))) 3279 ((tq_fi (tq_sai z 60 (upd (tq_ai z 60) (Int32.toNatClampNeg (tq_fi z 3279)) (vp_nar .char ((Int32.toUInt32 a1) % 65536).toInt32))) 3279) + (1 : Int32)))
def fg_X12_putSign (a1 : Int32) (z : tq_S) : Prop := (vp_in (tq_fi z 3279) 600)
theorem fw_X12_putSign {Q : tq_O → tq_S → Prop} {a1 : Int32} {z : tq_S} (g : fg_X12_putSign a1 z) (k : Q (.inl none) (fz_X12_putSign a1 z)) : wm_X12_putSign a1 z Q := by
  unfold wm_X12_putSign
  unfold fg_X12_putSign at g
  unfold fz_X12_putSign at k
  refine ⟨g, ?_⟩
  intro z1_ e_
  subst e_
  intro z2_ e_
  subst e_
  exact k
def fx_X12_signAt (a1 : Int32) (z : tq_S) : Int32 := (if (fx_X12_isIn a1 (0 : Int32) ((tq_fi z 3279) - (1 : Int32)) z) = 0 then (if (fx_X12_isThrown (1 : Int32) (1 : Int32) z) = 0 then (tq_ai (fz_X12_isThrown (1 : Int32) (1 : Int32) z) 60 (Int32.toNatClampNeg a1)) else (45 : Int32)) else (if (fx_X12_isThrown (0 : Int32) (1 : Int32) z) = 0 then (tq_ai (fz_X12_isThrown (0 : Int32) (1 : Int32) z) 60 (Int32.toNatClampNeg a1)) else (45 : Int32)))
def fz_X12_signAt (a1 : Int32) (z : tq_S) : tq_S := (if (fx_X12_isIn a1 (0 : Int32) ((tq_fi z 3279) - (1 : Int32)) z) = 0 then (if (fx_X12_isThrown (1 : Int32) (1 : Int32) z) = 0 then (fz_X12_isThrown (1 : Int32) (1 : Int32) z) else (fz_X12_isThrown (1 : Int32) (1 : Int32) z)) else (if (fx_X12_isThrown (0 : Int32) (1 : Int32) z) = 0 then (fz_X12_isThrown (0 : Int32) (1 : Int32) z) else (fz_X12_isThrown (0 : Int32) (1 : Int32) z)))
def fg_X12_signAt (a1 : Int32) (z : tq_S) : Prop := (if (fx_X12_isIn a1 (0 : Int32) ((tq_fi z 3279) - (1 : Int32)) z) = 0 then ((fg_X12_isThrown (1 : Int32) (1 : Int32) z) ∧ (if (fx_X12_isThrown (1 : Int32) (1 : Int32) z) = 0 then (vp_in a1 600 ∧ (tq_nf 2 (tq_ai (fz_X12_isThrown (1 : Int32) (1 : Int32) z) 60 (Int32.toNatClampNeg a1)))) else True)) else ((fg_X12_isThrown (0 : Int32) (1 : Int32) z) ∧ (if (fx_X12_isThrown (0 : Int32) (1 : Int32) z) = 0 then (vp_in a1 600 ∧ (tq_nf 2 (tq_ai (fz_X12_isThrown (0 : Int32) (1 : Int32) z) 60 (Int32.toNatClampNeg a1)))) else True)))
theorem fw_X12_signAt {Q : tq_O → tq_S → Prop} {a1 : Int32} {z : tq_S} (g : fg_X12_signAt a1 z) (k : Q (.inl (some (.int (fx_X12_signAt a1 z)))) (fz_X12_signAt a1 z)) : wm_X12_signAt a1 z Q := by
  unfold wm_X12_signAt
  unfold fg_X12_signAt at g
  unfold fx_X12_signAt fz_X12_signAt at k
  refine fw_X12_isIn ⟨_, rfl, ?_⟩
  refine ⟨fun h1 => ?_, fun h1 => ?_⟩
  · try rw [if_neg h1] at k
    try rw [if_neg h1] at k
    try rw [if_neg h1] at g
    unfold wc_X12_signAt_20
    refine fw_X12_isThrown g.1 ⟨_, rfl, ?_⟩
    replace g := g.2
    refine ⟨fun h2 => ?_, fun h2 => ?_⟩
    · try rw [if_pos h2] at k
      try rw [if_pos h2] at k
      try rw [if_pos h2] at g
      refine ⟨g.1, ?_⟩
      replace g := g.2
      refine ⟨g, ?_⟩
      exact k
    · try rw [if_neg h2] at k
      try rw [if_neg h2] at k
      try rw [if_neg h2] at g
      clear g
      exact k
  · try rw [if_pos h1] at k
    try rw [if_pos h1] at k
    try rw [if_pos h1] at g
    unfold wc_X12_signAt_20
    refine fw_X12_isThrown g.1 ⟨_, rfl, ?_⟩
    replace g := g.2
    refine ⟨fun h3 => ?_, fun h3 => ?_⟩
    · try rw [if_pos h3] at k
      try rw [if_pos h3] at k
      try rw [if_pos h3] at g
      refine ⟨g.1, ?_⟩
      replace g := g.2
      refine ⟨g, ?_⟩
      exact k
    · try rw [if_neg h3] at k
      try rw [if_neg h3] at k
      try rw [if_neg h3] at g
      clear g
      exact k
def fx_X12_choice (a1 : Int32) (a2 : Int32) (z : tq_S) : Int32 := (if a2 = 0 then (if (tq_fi z 3265) ≤ (((a1 - a1 / (8 : Int32) * (8 : Int32))) + (1 : Int32)) then (if (-1 : Int32) = (-1 : Int32) then (-1 : Int32) else (if (tq_ai z 53 (Int32.toNatClampNeg (-1 : Int32))) = 0 then (-1 : Int32) else (-1 : Int32))) else (if (a1 + (1 : Int32)) = (-1 : Int32) then (-1 : Int32) else (if (tq_ai z 53 (Int32.toNatClampNeg (a1 + (1 : Int32)))) = 0 then (-1 : Int32) else (a1 + (1 : Int32))))) else (if a2 = (1 : Int32) then (if (tq_fi z 3266) ≤ (((a1 / (8 : Int32))) + (1 : Int32)) then (if (-1 : Int32) = (-1 : Int32) then (-1 : Int32) else (if (tq_ai z 53 (Int32.toNatClampNeg (-1 : Int32))) = 0 then (-1 : Int32) else (-1 : Int32))) else (if (a1 + (8 : Int32)) = (-1 : Int32) then (-1 : Int32) else (if (tq_ai z 53 (Int32.toNatClampNeg (a1 + (8 : Int32)))) = 0 then (-1 : Int32) else (a1 + (8 : Int32))))) else (if (tq_fi z 3267) = 0 then (if (-1 : Int32) = (-1 : Int32) then (-1 : Int32) else (if (tq_ai z 53 (Int32.toNatClampNeg (-1 : Int32))) = 0 then (-1 : Int32) else (-1 : Int32))) else (if ((a1 - a1 / (8 : Int32) * (8 : Int32))) = 0 then (if ((a1 + (tq_fi z 3265)) - (1 : Int32)) = (-1 : Int32) then (-1 : Int32) else (if (tq_ai z 53 (Int32.toNatClampNeg ((a1 + (tq_fi z 3265)) - (1 : Int32)))) = 0 then (-1 : Int32) else ((a1 + (tq_fi z 3265)) - (1 : Int32)))) else (if (-1 : Int32) = (-1 : Int32) then (-1 : Int32) else (if (tq_ai z 53 (Int32.toNatClampNeg (-1 : Int32))) = 0 then (-1 : Int32) else (-1 : Int32)))))))
def fg_X12_choice (a1 : Int32) (a2 : Int32) (z : tq_S) : Prop := (if a2 = 0 then (if (tq_fi z 3265) ≤ (((a1 - a1 / (8 : Int32) * (8 : Int32))) + (1 : Int32)) then (if (-1 : Int32) = (-1 : Int32) then True else (vp_in (-1 : Int32) 64)) else (if (a1 + (1 : Int32)) = (-1 : Int32) then True else (vp_in (a1 + (1 : Int32)) 64))) else (if a2 = (1 : Int32) then (if (tq_fi z 3266) ≤ (((a1 / (8 : Int32))) + (1 : Int32)) then (if (-1 : Int32) = (-1 : Int32) then True else (vp_in (-1 : Int32) 64)) else (if (a1 + (8 : Int32)) = (-1 : Int32) then True else (vp_in (a1 + (8 : Int32)) 64))) else (if (tq_fi z 3267) = 0 then (if (-1 : Int32) = (-1 : Int32) then True else (vp_in (-1 : Int32) 64)) else (if ((a1 - a1 / (8 : Int32) * (8 : Int32))) = 0 then (if ((a1 + (tq_fi z 3265)) - (1 : Int32)) = (-1 : Int32) then True else (vp_in ((a1 + (tq_fi z 3265)) - (1 : Int32)) 64)) else (if (-1 : Int32) = (-1 : Int32) then True else (vp_in (-1 : Int32) 64))))))
theorem fw_X12_choice {Q : tq_O → tq_S → Prop} {a1 : Int32} {a2 : Int32} {z : tq_S} (g : fg_X12_choice a1 a2 z) (k : Q (.inl (some (.int (fx_X12_choice a1 a2 z)))) z) : wm_X12_choice a1 a2 z Q := by
  unfold wm_X12_choice
  unfold fg_X12_choice at g
  unfold fx_X12_choice at k
  intro v1_ e_
  subst e_
  intro v2_ e_
  subst e_
  refine ⟨fun h1 => ?_, fun h1 => ?_⟩
  · try rw [if_neg h1] at k
    try rw [if_neg h1] at g
    refine ⟨fun h2 => ?_, fun h2 => ?_⟩
    · try rw [if_neg h2] at k
      try rw [if_neg h2] at g
      refine ⟨fun h3 => ?_, fun h3 => ?_⟩
      · try rw [if_pos h3] at k
        try rw [if_pos h3] at g
        unfold wc_X12_choice_84
        unfold wc_X12_choice_85
        refine ⟨fun h4 => ?_, fun h4 => ?_⟩
        · try rw [if_pos h4] at k
          try rw [if_pos h4] at g
          clear g
          exact k
        · try rw [if_neg h4] at k
          try rw [if_neg h4] at g
          refine ⟨g, ?_⟩
          refine ⟨fun h5 => ?_, fun h5 => ?_⟩
          · try rw [if_pos h5] at k
            exact k
          · try rw [if_neg h5] at k
            exact k
      · try rw [if_neg h3] at k
        try rw [if_neg h3] at g
        refine ⟨fun h6 => ?_, fun h6 => ?_⟩
        · try rw [if_neg h6] at k
          try rw [if_neg h6] at g
          unfold wc_X12_choice_84
          unfold wc_X12_choice_85
          refine ⟨fun h7 => ?_, fun h7 => ?_⟩
          · try rw [if_pos h7] at k
            try rw [if_pos h7] at g
            clear g
            exact k
          · try rw [if_neg h7] at k
            try rw [if_neg h7] at g
            refine ⟨g, ?_⟩
            refine ⟨fun h8 => ?_, fun h8 => ?_⟩
            · try rw [if_pos h8] at k
              exact k
            · try rw [if_neg h8] at k
              exact k
        · try rw [if_pos h6] at k
          try rw [if_pos h6] at g
          unfold wc_X12_choice_85
          refine ⟨fun h9 => ?_, fun h9 => ?_⟩
          · try rw [if_pos h9] at k
            try rw [if_pos h9] at g
            clear g
            exact k
          · try rw [if_neg h9] at k
            try rw [if_neg h9] at g
            refine ⟨g, ?_⟩
            refine ⟨fun h10 => ?_, fun h10 => ?_⟩
            · try rw [if_pos h10] at k
              exact k
            · try rw [if_neg h10] at k
              exact k
    · try rw [if_pos h2] at k
      try rw [if_pos h2] at g
      refine ⟨fun h11 => ?_, fun h11 => ?_⟩
      · try rw [if_pos h11] at k
        try rw [if_pos h11] at g
        unfold wc_X12_choice_85
        refine ⟨fun h12 => ?_, fun h12 => ?_⟩
        · try rw [if_pos h12] at k
          try rw [if_pos h12] at g
          clear g
          exact k
        · try rw [if_neg h12] at k
          try rw [if_neg h12] at g
          refine ⟨g, ?_⟩
          refine ⟨fun h13 => ?_, fun h13 => ?_⟩
          · try rw [if_pos h13] at k
            exact k
          · try rw [if_neg h13] at k
            exact k
      · try rw [if_neg h11] at k
        try rw [if_neg h11] at g
        unfold wc_X12_choice_85
        refine ⟨fun h14 => ?_, fun h14 => ?_⟩
        · try rw [if_pos h14] at k
          try rw [if_pos h14] at g
          clear g
          exact k
        · try rw [if_neg h14] at k
          try rw [if_neg h14] at g
          refine ⟨g, ?_⟩
          refine ⟨fun h15 => ?_, fun h15 => ?_⟩
          · try rw [if_pos h15] at k
            exact k
          · try rw [if_neg h15] at k
            exact k
  · try rw [if_pos h1] at k
    try rw [if_pos h1] at g
    refine ⟨fun h16 => ?_, fun h16 => ?_⟩
    · try rw [if_pos h16] at k
      try rw [if_pos h16] at g
      unfold wc_X12_choice_85
      refine ⟨fun h17 => ?_, fun h17 => ?_⟩
      · try rw [if_pos h17] at k
        try rw [if_pos h17] at g
        clear g
        exact k
      · try rw [if_neg h17] at k
        try rw [if_neg h17] at g
        refine ⟨g, ?_⟩
        refine ⟨fun h18 => ?_, fun h18 => ?_⟩
        · try rw [if_pos h18] at k
          exact k
        · try rw [if_neg h18] at k
          exact k
    · try rw [if_neg h16] at k
      try rw [if_neg h16] at g
      unfold wc_X12_choice_85
      refine ⟨fun h19 => ?_, fun h19 => ?_⟩
      · try rw [if_pos h19] at k
        try rw [if_pos h19] at g
        clear g
        exact k
      · try rw [if_neg h19] at k
        try rw [if_neg h19] at g
        refine ⟨g, ?_⟩
        refine ⟨fun h20 => ?_, fun h20 => ?_⟩
        · try rw [if_pos h20] at k
          exact k
        · try rw [if_neg h20] at k
          exact k
def fz_X12_lay (a1 : Int32) (a2 : Int32) (a3 : Int32) (z : tq_S) : tq_S := (if a3 = 0 then (if a3 = 0 then (tq_sai (tq_sai z 56 (upd (tq_ai z 56) (Int32.toNatClampNeg a1) (vp_nar .char (101 : Int32)))) 56 (upd (tq_ai (tq_sai z 56 (upd (tq_ai z 56) (Int32.toNatClampNeg a1) (vp_nar .char (101 : Int32)))) 56) (Int32.toNatClampNeg a2) (vp_nar .char (119 : Int32)))) else (if a3 = (1 : Int32) then (tq_sai (tq_sai z 56 (upd (tq_ai z 56) (Int32.toNatClampNeg a1) (vp_nar .char (101 : Int32)))) 56 (upd (tq_ai (tq_sai z 56 (upd (tq_ai z 56) (Int32.toNatClampNeg a1) (vp_nar .char (101 : Int32)))) 56) (Int32.toNatClampNeg a2) (vp_nar .char (110 : Int32)))) else (tq_sai (tq_sai z 56 (upd (tq_ai z 56) (Int32.toNatClampNeg a1) (vp_nar .char (101 : Int32)))) 56 (upd (tq_ai (tq_sai z 56 (upd (tq_ai z 56) (Int32.toNatClampNeg a1) (vp_nar .char (101 : Int32)))) 56) (Int32.toNatClampNeg a2) (vp_nar .char (101 : Int32)))))) else (if a3 = (1 : Int32) then (if a3 = 0 then (tq_sai (tq_sai z 56 (upd (tq_ai z 56) (Int32.toNatClampNeg a1) (vp_nar .char (115 : Int32)))) 56 (upd (tq_ai (tq_sai z 56 (upd (tq_ai z 56) (Int32.toNatClampNeg a1) (vp_nar .char (115 : Int32)))) 56) (Int32.toNatClampNeg a2) (vp_nar .char (119 : Int32)))) else (if a3 = (1 : Int32) then (tq_sai (tq_sai z 56 (upd (tq_ai z 56) (Int32.toNatClampNeg a1) (vp_nar .char (115 : Int32)))) 56 (upd (tq_ai (tq_sai z 56 (upd (tq_ai z 56) (Int32.toNatClampNeg a1) (vp_nar .char (115 : Int32)))) 56) (Int32.toNatClampNeg a2) (vp_nar .char (110 : Int32)))) else (tq_sai (tq_sai z 56 (upd (tq_ai z 56) (Int32.toNatClampNeg a1) (vp_nar .char (115 : Int32)))) 56 (upd (tq_ai (tq_sai z 56 (upd (tq_ai z 56) (Int32.toNatClampNeg a1) (vp_nar .char (115 : Int32)))) 56) (Int32.toNatClampNeg a2) (vp_nar .char (101 : Int32)))))) else (if a3 = 0 then (tq_sai (tq_sai z 56 (upd (tq_ai z 56) (Int32.toNatClampNeg a1) (vp_nar .char (119 : Int32)))) 56 (upd (tq_ai (tq_sai z 56 (upd (tq_ai z 56) (Int32.toNatClampNeg a1) (vp_nar .char (119 : Int32)))) 56) (Int32.toNatClampNeg a2) (vp_nar .char (119 : Int32)))) else (if a3 = (1 : Int32) then (tq_sai (tq_sai z 56 (upd (tq_ai z 56) (Int32.toNatClampNeg a1) (vp_nar .char (119 : Int32)))) 56 (upd (tq_ai (tq_sai z 56 (upd (tq_ai z 56) (Int32.toNatClampNeg a1) (vp_nar .char (119 : Int32)))) 56) (Int32.toNatClampNeg a2) (vp_nar .char (110 : Int32)))) else (tq_sai (tq_sai z 56 (upd (tq_ai z 56) (Int32.toNatClampNeg a1) (vp_nar .char (119 : Int32)))) 56 (upd (tq_ai (tq_sai z 56 (upd (tq_ai z 56) (Int32.toNatClampNeg a1) (vp_nar .char (119 : Int32)))) 56) (Int32.toNatClampNeg a2) (vp_nar .char (101 : Int32))))))))
def fg_X12_lay (a1 : Int32) (a2 : Int32) (a3 : Int32) (z : tq_S) : Prop := (if a3 = 0 then (vp_in a1 64 ∧ (if a3 = 0 then (vp_in a2 64) else (if a3 = (1 : Int32) then (vp_in a2 64) else (vp_in a2 64)))) else (if a3 = (1 : Int32) then (vp_in a1 64 ∧ (if a3 = 0 then (vp_in a2 64) else (if a3 = (1 : Int32) then (vp_in a2 64) else (vp_in a2 64)))) else (vp_in a1 64 ∧ (if a3 = 0 then (vp_in a2 64) else (if a3 = (1 : Int32) then (vp_in a2 64) else (vp_in a2 64))))))
theorem fw_X12_lay {Q : tq_O → tq_S → Prop} {a1 : Int32} {a2 : Int32} {a3 : Int32} {z : tq_S} (g : fg_X12_lay a1 a2 a3 z) (k : Q (.inl none) (fz_X12_lay a1 a2 a3 z)) : wm_X12_lay a1 a2 a3 z Q := by
  unfold wm_X12_lay
  unfold fg_X12_lay at g
  unfold fz_X12_lay at k
  refine ⟨fun h1 => ?_, fun h1 => ?_⟩
  · try rw [if_neg h1] at k
    try rw [if_neg h1] at g
    refine ⟨fun h2 => ?_, fun h2 => ?_⟩
    · try rw [if_neg h2] at k
      try rw [if_neg h2] at g
      unfold wc_X12_lay_26
      refine ⟨g.1, ?_⟩
      replace g := g.2
      intro z101_ e_
      subst e_
      refine ⟨fun h3 => ?_, fun h3 => ?_⟩
      · try rw [if_neg h3] at k
        try rw [if_neg h3] at g
        refine ⟨fun h4 => ?_, fun h4 => ?_⟩
        · try rw [if_neg h4] at k
          try rw [if_neg h4] at g
          refine ⟨g, ?_⟩
          intro z102_ e_
          subst e_
          exact k
        · try rw [if_pos h4] at k
          try rw [if_pos h4] at g
          refine ⟨g, ?_⟩
          intro z103_ e_
          subst e_
          exact k
      · try rw [if_pos h3] at k
        try rw [if_pos h3] at g
        refine ⟨g, ?_⟩
        intro z104_ e_
        subst e_
        exact k
    · try rw [if_pos h2] at k
      try rw [if_pos h2] at g
      unfold wc_X12_lay_26
      refine ⟨g.1, ?_⟩
      replace g := g.2
      intro z101_ e_
      subst e_
      refine ⟨fun h5 => ?_, fun h5 => ?_⟩
      · try rw [if_neg h5] at k
        try rw [if_neg h5] at g
        refine ⟨fun h6 => ?_, fun h6 => ?_⟩
        · try rw [if_neg h6] at k
          try rw [if_neg h6] at g
          refine ⟨g, ?_⟩
          intro z102_ e_
          subst e_
          exact k
        · try rw [if_pos h6] at k
          try rw [if_pos h6] at g
          refine ⟨g, ?_⟩
          intro z103_ e_
          subst e_
          exact k
      · try rw [if_pos h5] at k
        try rw [if_pos h5] at g
        refine ⟨g, ?_⟩
        intro z104_ e_
        subst e_
        exact k
  · try rw [if_pos h1] at k
    try rw [if_pos h1] at g
    unfold wc_X12_lay_26
    refine ⟨g.1, ?_⟩
    replace g := g.2
    intro z101_ e_
    subst e_
    refine ⟨fun h7 => ?_, fun h7 => ?_⟩
    · try rw [if_neg h7] at k
      try rw [if_neg h7] at g
      refine ⟨fun h8 => ?_, fun h8 => ?_⟩
      · try rw [if_neg h8] at k
        try rw [if_neg h8] at g
        refine ⟨g, ?_⟩
        intro z102_ e_
        subst e_
        exact k
      · try rw [if_pos h8] at k
        try rw [if_pos h8] at g
        refine ⟨g, ?_⟩
        intro z103_ e_
        subst e_
        exact k
    · try rw [if_pos h7] at k
      try rw [if_pos h7] at g
      refine ⟨g, ?_⟩
      intro z104_ e_
      subst e_
      exact k
def fz_X12_take (a1 : Int32) (a2 : Int32) (a3 : Int32) (z : tq_S) : tq_S := (tq_sai (tq_sai z 53 (upd (tq_ai z 53) (Int32.toNatClampNeg a1) (vp_nar .boolean a3))) 53 (upd (tq_ai (tq_sai z 53 (upd (tq_ai z 53) (Int32.toNatClampNeg a1) (vp_nar .boolean a3))) 53) (Int32.toNatClampNeg a2) (vp_nar .boolean a3)))
def fg_X12_take (a1 : Int32) (a2 : Int32) (a3 : Int32) (z : tq_S) : Prop := (vp_in a1 64 ∧ (vp_in a2 64))
theorem fw_X12_take {Q : tq_O → tq_S → Prop} {a1 : Int32} {a2 : Int32} {a3 : Int32} {z : tq_S} (g : fg_X12_take a1 a2 a3 z) (k : Q (.inl none) (fz_X12_take a1 a2 a3 z)) : wm_X12_take a1 a2 a3 z Q := by
  unfold wm_X12_take
  unfold fg_X12_take at g
  unfold fz_X12_take at k
  refine ⟨g.1, ?_⟩
  replace g := g.2
  intro z1_ e_
  subst e_
  refine ⟨g, ?_⟩
  intro z2_ e_
  subst e_
  exact k
def fx_X12_hasNone (a1 : Int32) (z : tq_S) : Int32 := (if (tq_fi z 3272) = 0 then (fx_X12_isThrown (1 : Int32) a1 z) else (fx_X12_isThrown (0 : Int32) a1 z))
def fz_X12_hasNone (a1 : Int32) (z : tq_S) : tq_S := (if (tq_fi z 3272) = 0 then (fz_X12_isThrown (1 : Int32) a1 z) else (fz_X12_isThrown (0 : Int32) a1 z))
def fg_X12_hasNone (a1 : Int32) (z : tq_S) : Prop := (if (tq_fi z 3272) = 0 then ((fg_X12_isThrown (1 : Int32) a1 z) ∧ (tq_nz (fx_X12_isThrown (1 : Int32) a1 z))) else ((fg_X12_isThrown (0 : Int32) a1 z) ∧ (tq_nz (fx_X12_isThrown (0 : Int32) a1 z))))
theorem fw_X12_hasNone {Q : tq_O → tq_S → Prop} {a1 : Int32} {z : tq_S} (g : fg_X12_hasNone a1 z) (k : Q (.inl (some (.int (fx_X12_hasNone a1 z)))) (fz_X12_hasNone a1 z)) : wm_X12_hasNone a1 z Q := by
  unfold wm_X12_hasNone
  unfold fg_X12_hasNone at g
  unfold fx_X12_hasNone fz_X12_hasNone at k
  refine ⟨fun h1 => ?_, fun h1 => ?_⟩
  · try rw [if_neg h1] at k
    try rw [if_neg h1] at k
    try rw [if_neg h1] at g
    unfold wc_X12_hasNone_13
    refine fw_X12_isThrown g.1 ⟨_, rfl, ?_⟩
    replace g := g.2
    refine ⟨g, ?_⟩
    exact k
  · try rw [if_pos h1] at k
    try rw [if_pos h1] at k
    try rw [if_pos h1] at g
    unfold wc_X12_hasNone_13
    refine fw_X12_isThrown g.1 ⟨_, rfl, ?_⟩
    replace g := g.2
    refine ⟨g, ?_⟩
    exact k
def fx_X12_other (a1 : Int32) (a2 : Int32) (z : tq_S) : Int32 := (if (fx_X12_isCell a1 a2 z) = 0 then (if (fx_X12_isThrown (1 : Int32) (1 : Int32) z) = 0 then (if (fx_X12_hasNone (2 : Int32) (fz_X12_isThrown (1 : Int32) (1 : Int32) z)) = 0 then (tq_ai (fz_X12_hasNone (2 : Int32) (fz_X12_isThrown (1 : Int32) (1 : Int32) z)) 56 (Int32.toNatClampNeg (((8 : Int32) * a2) + a1))) else (45 : Int32)) else (45 : Int32)) else (if (fx_X12_isThrown (0 : Int32) (1 : Int32) z) = 0 then (if (fx_X12_hasNone (2 : Int32) (fz_X12_isThrown (0 : Int32) (1 : Int32) z)) = 0 then (tq_ai (fz_X12_hasNone (2 : Int32) (fz_X12_isThrown (0 : Int32) (1 : Int32) z)) 56 (Int32.toNatClampNeg (((8 : Int32) * a2) + a1))) else (45 : Int32)) else (45 : Int32)))
def fz_X12_other (a1 : Int32) (a2 : Int32) (z : tq_S) : tq_S := (if (fx_X12_isCell a1 a2 z) = 0 then (if (fx_X12_isThrown (1 : Int32) (1 : Int32) z) = 0 then (if (fx_X12_hasNone (2 : Int32) (fz_X12_isThrown (1 : Int32) (1 : Int32) z)) = 0 then (fz_X12_hasNone (2 : Int32) (fz_X12_isThrown (1 : Int32) (1 : Int32) z)) else (fz_X12_hasNone (2 : Int32) (fz_X12_isThrown (1 : Int32) (1 : Int32) z))) else (fz_X12_isThrown (1 : Int32) (1 : Int32) z)) else (if (fx_X12_isThrown (0 : Int32) (1 : Int32) z) = 0 then (if (fx_X12_hasNone (2 : Int32) (fz_X12_isThrown (0 : Int32) (1 : Int32) z)) = 0 then (fz_X12_hasNone (2 : Int32) (fz_X12_isThrown (0 : Int32) (1 : Int32) z)) else (fz_X12_hasNone (2 : Int32) (fz_X12_isThrown (0 : Int32) (1 : Int32) z))) else (fz_X12_isThrown (0 : Int32) (1 : Int32) z)))
def fg_X12_other (a1 : Int32) (a2 : Int32) (z : tq_S) : Prop := ((fg_X12_isCell a1 a2 z) ∧ (if (fx_X12_isCell a1 a2 z) = 0 then ((fg_X12_isThrown (1 : Int32) (1 : Int32) z) ∧ (if (fx_X12_isThrown (1 : Int32) (1 : Int32) z) = 0 then ((fg_X12_hasNone (2 : Int32) (fz_X12_isThrown (1 : Int32) (1 : Int32) z)) ∧ (if (fx_X12_hasNone (2 : Int32) (fz_X12_isThrown (1 : Int32) (1 : Int32) z)) = 0 then (vp_in (((8 : Int32) * a2) + a1) 64 ∧ (tq_nf 2 (tq_ai (fz_X12_hasNone (2 : Int32) (fz_X12_isThrown (1 : Int32) (1 : Int32) z)) 56 (Int32.toNatClampNeg (((8 : Int32) * a2) + a1))))) else True)) else True)) else ((fg_X12_isThrown (0 : Int32) (1 : Int32) z) ∧ (if (fx_X12_isThrown (0 : Int32) (1 : Int32) z) = 0 then ((fg_X12_hasNone (2 : Int32) (fz_X12_isThrown (0 : Int32) (1 : Int32) z)) ∧ (if (fx_X12_hasNone (2 : Int32) (fz_X12_isThrown (0 : Int32) (1 : Int32) z)) = 0 then (vp_in (((8 : Int32) * a2) + a1) 64 ∧ (tq_nf 2 (tq_ai (fz_X12_hasNone (2 : Int32) (fz_X12_isThrown (0 : Int32) (1 : Int32) z)) 56 (Int32.toNatClampNeg (((8 : Int32) * a2) + a1))))) else True)) else True))))
theorem fw_X12_other {Q : tq_O → tq_S → Prop} {a1 : Int32} {a2 : Int32} {z : tq_S} (g : fg_X12_other a1 a2 z) (k : Q (.inl (some (.int (fx_X12_other a1 a2 z)))) (fz_X12_other a1 a2 z)) : wm_X12_other a1 a2 z Q := by
  unfold wm_X12_other
  unfold fg_X12_other at g
  unfold fx_X12_other fz_X12_other at k
  refine fw_X12_isCell g.1 ⟨_, rfl, ?_⟩
  replace g := g.2
  refine ⟨fun h1 => ?_, fun h1 => ?_⟩
  · try rw [if_neg h1] at k
    try rw [if_neg h1] at k
    try rw [if_neg h1] at g
    unfold wc_X12_other_15
    refine fw_X12_isThrown g.1 ⟨_, rfl, ?_⟩
    replace g := g.2
    refine ⟨fun h2 => ?_, fun h2 => ?_⟩
    · try rw [if_neg h2] at k
      try rw [if_neg h2] at k
      try rw [if_neg h2] at g
      clear g
      exact k
    · try rw [if_pos h2] at k
      try rw [if_pos h2] at k
      try rw [if_pos h2] at g
      refine fw_X12_hasNone g.1 ⟨_, rfl, ?_⟩
      replace g := g.2
      refine ⟨fun h3 => ?_, fun h3 => ?_⟩
      · try rw [if_pos h3] at k
        try rw [if_pos h3] at k
        try rw [if_pos h3] at g
        refine ⟨g.1, ?_⟩
        replace g := g.2
        refine ⟨g, ?_⟩
        exact k
      · try rw [if_neg h3] at k
        try rw [if_neg h3] at k
        try rw [if_neg h3] at g
        clear g
        exact k
  · try rw [if_pos h1] at k
    try rw [if_pos h1] at k
    try rw [if_pos h1] at g
    unfold wc_X12_other_15
    refine fw_X12_isThrown g.1 ⟨_, rfl, ?_⟩
    replace g := g.2
    refine ⟨fun h4 => ?_, fun h4 => ?_⟩
    · try rw [if_neg h4] at k
      try rw [if_neg h4] at k
      try rw [if_neg h4] at g
      clear g
      exact k
    · try rw [if_pos h4] at k
      try rw [if_pos h4] at k
      try rw [if_pos h4] at g
      refine fw_X12_hasNone g.1 ⟨_, rfl, ?_⟩
      replace g := g.2
      refine ⟨fun h5 => ?_, fun h5 => ?_⟩
      · try rw [if_pos h5] at k
        try rw [if_pos h5] at k
        try rw [if_pos h5] at g
        refine ⟨g.1, ?_⟩
        replace g := g.2
        refine ⟨g, ?_⟩
        exact k
      · try rw [if_neg h5] at k
        try rw [if_neg h5] at k
        try rw [if_neg h5] at g
        clear g
        exact k
def fx_X12_isCorner (a1 : Int32) (a2 : Int32) (z : tq_S) : Int32 := (if (fx_X12_isIn a1 (0 : Int32) (tq_fi z 3265) z) = 0 then (0 : Int32) else (if (fx_X12_isIn a2 (0 : Int32) (tq_fi z 3266) z) = 0 then (0 : Int32) else (if (fx_X12_isCell a1 a2 z) = 0 then (if (fx_X12_isCell (a1 - (1 : Int32)) a2 z) = 0 then (if (fx_X12_isCell a1 (a2 - (1 : Int32)) z) = 0 then (if (fx_X12_isCell (a1 - (1 : Int32)) (a2 - (1 : Int32)) z) = 0 then (0 : Int32) else (1 : Int32)) else (1 : Int32)) else (1 : Int32)) else (1 : Int32))))
def fg_X12_isCorner (a1 : Int32) (a2 : Int32) (z : tq_S) : Prop := (if (fx_X12_isIn a1 (0 : Int32) (tq_fi z 3265) z) = 0 then True else (if (fx_X12_isIn a2 (0 : Int32) (tq_fi z 3266) z) = 0 then True else ((fg_X12_isCell a1 a2 z) ∧ (if (fx_X12_isCell a1 a2 z) = 0 then ((fg_X12_isCell (a1 - (1 : Int32)) a2 z) ∧ (if (fx_X12_isCell (a1 - (1 : Int32)) a2 z) = 0 then ((fg_X12_isCell a1 (a2 - (1 : Int32)) z) ∧ (if (fx_X12_isCell a1 (a2 - (1 : Int32)) z) = 0 then (fg_X12_isCell (a1 - (1 : Int32)) (a2 - (1 : Int32)) z) else True)) else True)) else True))))
theorem fw_X12_isCorner {Q : tq_O → tq_S → Prop} {a1 : Int32} {a2 : Int32} {z : tq_S} (g : fg_X12_isCorner a1 a2 z) (k : Q (.inl (some (.int (fx_X12_isCorner a1 a2 z)))) z) : wm_X12_isCorner a1 a2 z Q := by
  unfold wm_X12_isCorner
  unfold fg_X12_isCorner at g
  unfold fx_X12_isCorner at k
  refine fw_X12_isIn ⟨_, rfl, ?_⟩
  refine ⟨fun h1 => ?_, fun h1 => ?_⟩
  · try rw [if_pos h1] at k
    try rw [if_pos h1] at g
    clear g
    exact k
  · try rw [if_neg h1] at k
    try rw [if_neg h1] at g
    refine fw_X12_isIn ⟨_, rfl, ?_⟩
    refine ⟨fun h2 => ?_, fun h2 => ?_⟩
    · try rw [if_pos h2] at k
      try rw [if_pos h2] at g
      clear g
      exact k
    · try rw [if_neg h2] at k
      try rw [if_neg h2] at g
      refine fw_X12_isCell g.1 ⟨_, rfl, ?_⟩
      replace g := g.2
      refine ⟨fun h3 => ?_, fun h3 => ?_⟩
      · try rw [if_neg h3] at k
        try rw [if_neg h3] at g
        clear g
        exact k
      · try rw [if_pos h3] at k
        try rw [if_pos h3] at g
        refine fw_X12_isCell g.1 ⟨_, rfl, ?_⟩
        replace g := g.2
        refine ⟨fun h4 => ?_, fun h4 => ?_⟩
        · try rw [if_neg h4] at k
          try rw [if_neg h4] at g
          clear g
          exact k
        · try rw [if_pos h4] at k
          try rw [if_pos h4] at g
          refine fw_X12_isCell g.1 ⟨_, rfl, ?_⟩
          replace g := g.2
          refine ⟨fun h5 => ?_, fun h5 => ?_⟩
          · try rw [if_neg h5] at k
            try rw [if_neg h5] at g
            clear g
            exact k
          · try rw [if_pos h5] at k
            try rw [if_pos h5] at g
            refine fw_X12_isCell g ⟨_, rfl, ?_⟩
            refine ⟨fun h6 => ?_, fun h6 => ?_⟩
            · try rw [if_pos h6] at k
              exact k
            · try rw [if_neg h6] at k
              exact k
def fx_X12_isThere (a1 : Int32) (z : tq_S) : Int32 := (if a1 = (-1 : Int32) then (0 : Int32) else (if a1 = (tq_fi z 3288) then (0 : Int32) else (if (tq_ai z 52 (Int32.toNatClampNeg a1)) = 0 then (0 : Int32) else (1 : Int32))))
def fg_X12_isThere (a1 : Int32) (z : tq_S) : Prop := (if a1 = (-1 : Int32) then True else (if a1 = (tq_fi z 3288) then True else (vp_in a1 64)))
theorem fw_X12_isThere {Q : tq_O → tq_S → Prop} {a1 : Int32} {z : tq_S} (g : fg_X12_isThere a1 z) (k : Q (.inl (some (.int (fx_X12_isThere a1 z)))) z) : wm_X12_isThere a1 z Q := by
  unfold wm_X12_isThere
  unfold fg_X12_isThere at g
  unfold fx_X12_isThere at k
  refine ⟨fun h1 => ?_, fun h1 => ?_⟩
  · try rw [if_pos h1] at k
    try rw [if_pos h1] at g
    clear g
    exact k
  · try rw [if_neg h1] at k
    try rw [if_neg h1] at g
    refine ⟨fun h2 => ?_, fun h2 => ?_⟩
    · try rw [if_pos h2] at k
      try rw [if_pos h2] at g
      clear g
      exact k
    · try rw [if_neg h2] at k
      try rw [if_neg h2] at g
      refine ⟨g, ?_⟩
      refine ⟨fun h3 => ?_, fun h3 => ?_⟩
      · try rw [if_pos h3] at k
        exact k
      · try rw [if_neg h3] at k
        exact k
def fx_X12_isBit (a0 : Int64) (a2 : Int32) (a3 : Int32) (z : tq_S) : Int32 := (if (fx_X12_isIn a2 (0 : Int32) (5 : Int32) z) = 0 then (0 : Int32) else (if (fx_X12_isIn a3 (0 : Int32) (5 : Int32) z) = 0 then (0 : Int32) else (if ((a0 >>> ((Int32.toInt64 (((6 : Int32) * a3) + a2)) &&& 63)) &&& (1 : Int64)) = (1 : Int64) then (1 : Int32) else (0 : Int32))))
theorem fw_X12_isBit {Q : tq_O → tq_S → Prop} {a0 : Int64} {a2 : Int32} {a3 : Int32} {z : tq_S} (k : Q (.inl (some (.int (fx_X12_isBit a0 a2 a3 z)))) z) : wm_X12_isBit a0 a2 a3 z Q := by
  unfold wm_X12_isBit
  unfold fx_X12_isBit at k
  refine fw_X12_isIn ⟨_, rfl, ?_⟩
  refine ⟨fun h1 => ?_, fun h1 => ?_⟩
  · try rw [if_pos h1] at k
    exact k
  · try rw [if_neg h1] at k
    refine fw_X12_isIn ⟨_, rfl, ?_⟩
    refine ⟨fun h2 => ?_, fun h2 => ?_⟩
    · try rw [if_pos h2] at k
      exact k
    · try rw [if_neg h2] at k
      refine ⟨fun h3 => ?_, fun h3 => ?_⟩
      · try rw [if_neg h3] at k
        exact k
      · try rw [if_pos h3] at k
        exact k
def fx_J9_min_7cf53 (a0 : Int32) (a1 : Int32) (z : tq_S) : Int32 := (if a1 < a0 then a1 else a0)
theorem fw_J9_min_7cf53 {Q : tq_O → tq_S → Prop} {a0 : Int32} {a1 : Int32} {z : tq_S} (k : Q (.inl (some (.int (fx_J9_min_7cf53 a0 a1 z)))) z) : wm_J9_min_7cf53 a0 a1 z Q := by
  unfold wm_J9_min_7cf53
  unfold fx_J9_min_7cf53 at k
  refine ⟨fun h1 => ?_, fun h1 => ?_⟩
  · try rw [if_pos h1] at k
    exact k
  · try rw [if_neg h1] at k
    exact k
def fx_X12_clear  (z : tq_S) : Int32 := ((tq_fi (tq_sfi z 3264 (0 : Int32)) 3290))
def fz_X12_clear  (z : tq_S) : tq_S := (tq_sfl (tq_sfi (tq_sfi z 3264 (0 : Int32)) 3290 (0 : Int32)) 3289 (0 : Int64))
theorem fw_X12_clear {Q : tq_O → tq_S → Prop}  {z : tq_S} (k : Q (.inl (some (.int (fx_X12_clear  z)))) (fz_X12_clear  z)) : wm_X12_clear  z Q := by
  unfold wm_X12_clear
  unfold fx_X12_clear fz_X12_clear at k
  intro z1_ e_
  subst e_
  intro v2_ e_
  subst e_
  intro z3_ e_
  subst e_
  intro z4_ e_
  subst e_
  exact k
def fx_X12_isAhead (a0 : Int64) (a2 : Int64) (z : tq_S) : Int32 := (if ((a0 ^^^ a2)) = (0 : Int64) then (0 : Int32) else (if ((a0 &&& ((a0 ^^^ a2))) &&& (-((a0 ^^^ a2)))) = (0 : Int64) then (0 : Int32) else (1 : Int32)))
theorem fw_X12_isAhead {Q : tq_O → tq_S → Prop} {a0 : Int64} {a2 : Int64} {z : tq_S} (k : Q (.inl (some (.int (fx_X12_isAhead a0 a2 z)))) z) : wm_X12_isAhead a0 a2 z Q := by
  unfold wm_X12_isAhead
  unfold fx_X12_isAhead at k
  intro v1_ e_
  subst e_
  refine ⟨fun h1 => ?_, fun h1 => ?_⟩
  · try rw [if_pos h1] at k
    exact k
  · try rw [if_neg h1] at k
    refine ⟨fun h2 => ?_, fun h2 => ?_⟩
    · try rw [if_pos h2] at k
      exact k
    · try rw [if_neg h2] at k
      exact k
def fx_X12_goes (a1 : Int32) (a2 : Int32) (z : tq_S) : Int32 := (if (a2 &&& (4 : Int32)) = (4 : Int32) then (if (a2 &&& (1 : Int32)) = (1 : Int32) then (if (a2 &&& (2 : Int32)) = (2 : Int32) then (((8 : Int32) * (((tq_fi z 3266) - (1 : Int32)) - ((a1 - a1 / (8 : Int32) * (8 : Int32))))) + (((tq_fi z 3265) - (1 : Int32)) - ((a1 / (8 : Int32))))) else (((8 : Int32) * ((a1 - a1 / (8 : Int32) * (8 : Int32)))) + (((tq_fi z 3265) - (1 : Int32)) - ((a1 / (8 : Int32)))))) else (if (a2 &&& (2 : Int32)) = (2 : Int32) then (((8 : Int32) * (((tq_fi z 3266) - (1 : Int32)) - ((a1 - a1 / (8 : Int32) * (8 : Int32))))) + ((a1 / (8 : Int32)))) else (((8 : Int32) * ((a1 - a1 / (8 : Int32) * (8 : Int32)))) + ((a1 / (8 : Int32)))))) else (if (a2 &&& (1 : Int32)) = (1 : Int32) then (if (a2 &&& (2 : Int32)) = (2 : Int32) then (((8 : Int32) * (((tq_fi z 3266) - (1 : Int32)) - ((a1 / (8 : Int32))))) + (((tq_fi z 3265) - (1 : Int32)) - ((a1 - a1 / (8 : Int32) * (8 : Int32))))) else (((8 : Int32) * ((a1 / (8 : Int32)))) + (((tq_fi z 3265) - (1 : Int32)) - ((a1 - a1 / (8 : Int32) * (8 : Int32)))))) else (if (a2 &&& (2 : Int32)) = (2 : Int32) then (((8 : Int32) * (((tq_fi z 3266) - (1 : Int32)) - ((a1 / (8 : Int32))))) + ((a1 - a1 / (8 : Int32) * (8 : Int32)))) else (((8 : Int32) * ((a1 / (8 : Int32)))) + ((a1 - a1 / (8 : Int32) * (8 : Int32)))))))
theorem fw_X12_goes {Q : tq_O → tq_S → Prop} {a1 : Int32} {a2 : Int32} {z : tq_S} (k : Q (.inl (some (.int (fx_X12_goes a1 a2 z)))) z) : wm_X12_goes a1 a2 z Q := by
  unfold wm_X12_goes
  unfold fx_X12_goes at k
  intro v1_ e_
  subst e_
  intro v2_ e_
  subst e_
  refine ⟨fun h1 => ?_, fun h1 => ?_⟩
  · try rw [if_neg h1] at k
    unfold wc_X12_goes_28
    refine ⟨fun h2 => ?_, fun h2 => ?_⟩
    · try rw [if_neg h2] at k
      unfold wc_X12_goes_47
      refine ⟨fun h3 => ?_, fun h3 => ?_⟩
      · try rw [if_neg h3] at k
        unfold wc_X12_goes_69
        exact k
      · try rw [if_pos h3] at k
        unfold wc_X12_goes_69
        exact k
    · try rw [if_pos h2] at k
      unfold wc_X12_goes_47
      refine ⟨fun h4 => ?_, fun h4 => ?_⟩
      · try rw [if_neg h4] at k
        unfold wc_X12_goes_69
        exact k
      · try rw [if_pos h4] at k
        unfold wc_X12_goes_69
        exact k
  · try rw [if_pos h1] at k
    unfold wc_X12_goes_28
    refine ⟨fun h5 => ?_, fun h5 => ?_⟩
    · try rw [if_neg h5] at k
      unfold wc_X12_goes_47
      refine ⟨fun h6 => ?_, fun h6 => ?_⟩
      · try rw [if_neg h6] at k
        unfold wc_X12_goes_69
        exact k
      · try rw [if_pos h6] at k
        unfold wc_X12_goes_69
        exact k
    · try rw [if_pos h5] at k
      unfold wc_X12_goes_47
      refine ⟨fun h7 => ?_, fun h7 => ?_⟩
      · try rw [if_neg h7] at k
        unfold wc_X12_goes_69
        exact k
      · try rw [if_pos h7] at k
        unfold wc_X12_goes_69
        exact k
def fx_X12_ruleOf (a1 : Int32) (z : tq_S) : Int64 := (if ((((2147483647 : Int64) - (tq_al z 79 (Int32.toNatClampNeg a1))) - ((2147483647 : Int64) - (tq_al z 79 (Int32.toNatClampNeg a1))) / (2147483647 : Int64) * (2147483647 : Int64))) ≤ (1073741823 : Int64) then ((((2147483647 : Int64) - (tq_al z 79 (Int32.toNatClampNeg a1))) - ((2147483647 : Int64) - (tq_al z 79 (Int32.toNatClampNeg a1))) / (2147483647 : Int64) * (2147483647 : Int64))) else (((((2147483647 : Int64) - (tq_al z 79 (Int32.toNatClampNeg a1))) - ((2147483647 : Int64) - (tq_al z 79 (Int32.toNatClampNeg a1))) / (2147483647 : Int64) * (2147483647 : Int64))) - (2147483647 : Int64)))
def fg_X12_ruleOf (a1 : Int32) (z : tq_S) : Prop := (vp_in a1 48)
theorem fw_X12_ruleOf {Q : tq_O → tq_S → Prop} {a1 : Int32} {z : tq_S} (g : fg_X12_ruleOf a1 z) (k : Q (.inl (some (.long (fx_X12_ruleOf a1 z)))) z) : wm_X12_ruleOf a1 z Q := by
  unfold wm_X12_ruleOf
  unfold fg_X12_ruleOf at g
  unfold fx_X12_ruleOf at k
  refine ⟨g, ?_⟩
  intro v1_ e_
  subst e_
  refine ⟨fun h1 => ?_, fun h1 => ?_⟩
  · try rw [if_pos h1] at k
    exact k
  · try rw [if_neg h1] at k
    exact k
def fz_X12_add (a1 : Int32) (a2 : Int64) (z : tq_S) : tq_S := (tq_sal z 86 (vp_updL (tq_al z 86) (Int32.toNatClampNeg a1) ((tq_al z 86 (Int32.toNatClampNeg a1)) + a2)))
def fg_X12_add (a1 : Int32) (a2 : Int64) (z : tq_S) : Prop := (vp_in a1 262144 ∧ (vp_in a1 262144))
theorem fw_X12_add {Q : tq_O → tq_S → Prop} {a1 : Int32} {a2 : Int64} {z : tq_S} (g : fg_X12_add a1 a2 z) (k : Q (.inl none) (fz_X12_add a1 a2 z)) : wm_X12_add a1 a2 z Q := by
  unfold wm_X12_add
  unfold fg_X12_add at g
  unfold fz_X12_add at k
  refine ⟨g.1, ?_⟩
  replace g := g.2
  refine ⟨g, ?_⟩
  intro z1_ e_
  subst e_
  exact k
def fx_X12_plug (a0 : Int32) (a1 : Int32) (z : tq_S) : Int32 := ((a0 >>> (((2 : Int32) * a1) &&& 31)) &&& (3 : Int32))
theorem fw_X12_plug {Q : tq_O → tq_S → Prop} {a0 : Int32} {a1 : Int32} {z : tq_S} (k : Q (.inl (some (.int (fx_X12_plug a0 a1 z)))) z) : wm_X12_plug a0 a1 z Q := by
  unfold wm_X12_plug
  unfold fx_X12_plug at k
  exact k
def fx_X12_with (a0 : Int32) (a1 : Int32) (a2 : Int32) (z : tq_S) : Int32 := ((a0 &&& (((3 : Int32) <<< (((2 : Int32) * a1) &&& 31)) ^^^ (-1 : Int32))) ||| (a2 <<< (((2 : Int32) * a1) &&& 31)))
theorem fw_X12_with {Q : tq_O → tq_S → Prop} {a0 : Int32} {a1 : Int32} {a2 : Int32} {z : tq_S} (k : Q (.inl (some (.int (fx_X12_with a0 a1 a2 z)))) z) : wm_X12_with a0 a1 a2 z Q := by
  unfold wm_X12_with
  unfold fx_X12_with at k
  exact k
def fx_X12_isSound  (z : tq_S) : Int32 := (1 : Int32)
def fz_X12_isSound  (z : tq_S) : tq_S := (tq_sfi z 3264 (0 : Int32))
theorem fw_X12_isSound {Q : tq_O → tq_S → Prop}  {z : tq_S} (k : Q (.inl (some (.int (fx_X12_isSound  z)))) (fz_X12_isSound  z)) : wm_X12_isSound  z Q := by
  unfold wm_X12_isSound
  unfold fx_X12_isSound fz_X12_isSound at k
  intro z1_ e_
  subst e_
  exact k
def fx_X11_isFrom (a0 : Int32) (a1 : Int32) (a2 : Int32) (z : tq_S) : Int32 := (if a1 < a0 then (0 : Int32) else (if a2 < a1 then (0 : Int32) else (1 : Int32)))
theorem fw_X11_isFrom {Q : tq_O → tq_S → Prop} {a0 : Int32} {a1 : Int32} {a2 : Int32} {z : tq_S} (k : Q (.inl (some (.int (fx_X11_isFrom a0 a1 a2 z)))) z) : wm_X11_isFrom a0 a1 a2 z Q := by
  unfold wm_X11_isFrom
  unfold fx_X11_isFrom at k
  refine ⟨fun h1 => ?_, fun h1 => ?_⟩
  · try rw [if_pos h1] at k
    exact k
  · try rw [if_neg h1] at k
    refine ⟨fun h2 => ?_, fun h2 => ?_⟩
    · try rw [if_pos h2] at k
      exact k
    · try rw [if_neg h2] at k
      exact k
def fz_X1_tell (a1 : Int32) (a2 : Int32) (a3 : Int64) (z : tq_S) : tq_S := (tq_sfi (tq_sfi (tq_sfl (tq_sfi (tq_sfi z 64 a1) 65 a2) 67 a3) 66 (0 : Int32)) 68 ((tq_fi (tq_sfi (tq_sfl (tq_sfi (tq_sfi z 64 a1) 65 a2) 67 a3) 66 (0 : Int32)) 68) + (1 : Int32)))
theorem fw_X1_tell {Q : tq_O → tq_S → Prop} {a1 : Int32} {a2 : Int32} {a3 : Int64} {z : tq_S} (k : Q (.inl none) (fz_X1_tell a1 a2 a3 z)) : wm_X1_tell a1 a2 a3 z Q := by
  unfold wm_X1_tell
  unfold fz_X1_tell at k
  intro z1_ e_
  subst e_
  intro z2_ e_
  subst e_
  intro z3_ e_
  subst e_
  intro z4_ e_
  subst e_
  intro z5_ e_
  subst e_
  exact k
def fz_X2_forget  (z : tq_S) : tq_S := (tq_sfl (tq_sfl (tq_sfi (tq_sfi (tq_sfi z 516 (0 : Int32)) 519 (0 : Int32)) 522 (0 : Int32)) 517 (0 : Int64)) 518 (0 : Int64))
theorem fw_X2_forget {Q : tq_O → tq_S → Prop}  {z : tq_S} (k : Q (.inl none) (fz_X2_forget  z)) : wm_X2_forget  z Q := by
  unfold wm_X2_forget
  unfold fz_X2_forget at k
  intro z1_ e_
  subst e_
  intro z2_ e_
  subst e_
  intro z3_ e_
  subst e_
  intro z4_ e_
  subst e_
  intro z5_ e_
  subst e_
  exact k
def fx_X1_isForm (a0 : Int32) (a1 : Int32) (z : tq_S) : Int32 := (if a0 = (97 : Int32) then (fx_X11_isFrom (1 : Int32) a1 (4 : Int32) z) else (if a0 = (115 : Int32) then (fx_X11_isFrom (1 : Int32) a1 (8 : Int32) z) else (if a0 = (111 : Int32) then (fx_X11_isFrom (3 : Int32) a1 (8 : Int32) z) else (if a0 = (99 : Int32) then (if (fx_X11_isFrom (2 : Int32) a1 (8 : Int32) z) = 0 then (0 : Int32) else (1 : Int32)) else (0 : Int32)))))
def fg_X1_isForm (a0 : Int32) (a1 : Int32) (z : tq_S) : Prop := (if a0 = (97 : Int32) then (tq_nz (fx_X11_isFrom (1 : Int32) a1 (4 : Int32) z)) else (if a0 = (115 : Int32) then (tq_nz (fx_X11_isFrom (1 : Int32) a1 (8 : Int32) z)) else (if a0 = (111 : Int32) then (tq_nz (fx_X11_isFrom (3 : Int32) a1 (8 : Int32) z)) else True)))
theorem fw_X1_isForm {Q : tq_O → tq_S → Prop} {a0 : Int32} {a1 : Int32} {z : tq_S} (g : fg_X1_isForm a0 a1 z) (k : Q (.inl (some (.int (fx_X1_isForm a0 a1 z)))) z) : wm_X1_isForm a0 a1 z Q := by
  unfold wm_X1_isForm
  unfold fg_X1_isForm at g
  unfold fx_X1_isForm at k
  refine ⟨fun h1 => ?_, fun h1 => ?_⟩
  · try rw [if_neg h1] at k
    try rw [if_neg h1] at g
    refine ⟨fun h2 => ?_, fun h2 => ?_⟩
    · try rw [if_neg h2] at k
      try rw [if_neg h2] at g
      refine ⟨fun h3 => ?_, fun h3 => ?_⟩
      · try rw [if_neg h3] at k
        try rw [if_neg h3] at g
        clear g
        refine ⟨fun h4 => ?_, fun h4 => ?_⟩
        · try rw [if_neg h4] at k
          exact k
        · try rw [if_pos h4] at k
          refine fw_X11_isFrom ⟨_, rfl, ?_⟩
          refine ⟨fun h5 => ?_, fun h5 => ?_⟩
          · try rw [if_pos h5] at k
            exact k
          · try rw [if_neg h5] at k
            exact k
      · try rw [if_pos h3] at k
        try rw [if_pos h3] at g
        refine fw_X11_isFrom ⟨_, rfl, ?_⟩
        refine ⟨g, ?_⟩
        exact k
    · try rw [if_pos h2] at k
      try rw [if_pos h2] at g
      refine fw_X11_isFrom ⟨_, rfl, ?_⟩
      refine ⟨g, ?_⟩
      exact k
  · try rw [if_pos h1] at k
    try rw [if_pos h1] at g
    refine fw_X11_isFrom ⟨_, rfl, ?_⟩
    refine ⟨g, ?_⟩
    exact k
def fx_X1_isInForm (a0 : Int32) (a1 : Int32) (a2 : Int32) (a3 : Int32) (z : tq_S) : Int32 := (if a0 = (97 : Int32) then (if a1 ≤ a3 then (fx_X11_isFrom (a3 - a1) a2 ((((2 : Int32) * a1) - (1 : Int32)) - (a3 - a1)) z) else (fx_X11_isFrom ((a1 - (1 : Int32)) - a3) a2 ((((2 : Int32) * a1) - (1 : Int32)) - ((a1 - (1 : Int32)) - a3)) z)) else (if a0 = (115 : Int32) then (if a3 < a2 then (0 : Int32) else (1 : Int32)) else (if a0 = (111 : Int32) then (if a2 = 0 then (1 : Int32) else (if a3 = 0 then (1 : Int32) else (if a2 = (a1 - (1 : Int32)) then (1 : Int32) else (if a3 = (a1 - (1 : Int32)) then (1 : Int32) else (0 : Int32))))) else (if a2 = 0 then (if a3 = 0 then (0 : Int32) else (if a2 = (a1 - (1 : Int32)) then (if a3 = (a1 - (1 : Int32)) then (0 : Int32) else (1 : Int32)) else (1 : Int32))) else (if a2 = (a1 - (1 : Int32)) then (if a3 = (a1 - (1 : Int32)) then (0 : Int32) else (1 : Int32)) else (1 : Int32))))))
def fg_X1_isInForm (a0 : Int32) (a1 : Int32) (a2 : Int32) (a3 : Int32) (z : tq_S) : Prop := (if a0 = (97 : Int32) then (if a1 ≤ a3 then (tq_nz (fx_X11_isFrom (a3 - a1) a2 ((((2 : Int32) * a1) - (1 : Int32)) - (a3 - a1)) z)) else (tq_nz (fx_X11_isFrom ((a1 - (1 : Int32)) - a3) a2 ((((2 : Int32) * a1) - (1 : Int32)) - ((a1 - (1 : Int32)) - a3)) z))) else True)
theorem fw_X1_isInForm {Q : tq_O → tq_S → Prop} {a0 : Int32} {a1 : Int32} {a2 : Int32} {a3 : Int32} {z : tq_S} (g : fg_X1_isInForm a0 a1 a2 a3 z) (k : Q (.inl (some (.int (fx_X1_isInForm a0 a1 a2 a3 z)))) z) : wm_X1_isInForm a0 a1 a2 a3 z Q := by
  unfold wm_X1_isInForm
  unfold fg_X1_isInForm at g
  unfold fx_X1_isInForm at k
  refine ⟨fun h1 => ?_, fun h1 => ?_⟩
  · try rw [if_neg h1] at k
    try rw [if_neg h1] at g
    clear g
    refine ⟨fun h2 => ?_, fun h2 => ?_⟩
    · try rw [if_neg h2] at k
      refine ⟨fun h3 => ?_, fun h3 => ?_⟩
      · try rw [if_neg h3] at k
        refine ⟨fun h4 => ?_, fun h4 => ?_⟩
        · try rw [if_neg h4] at k
          unfold wc_X1_isInForm_98
          refine ⟨fun h5 => ?_, fun h5 => ?_⟩
          · try rw [if_neg h5] at k
            exact k
          · try rw [if_pos h5] at k
            refine ⟨fun h6 => ?_, fun h6 => ?_⟩
            · try rw [if_pos h6] at k
              exact k
            · try rw [if_neg h6] at k
              exact k
        · try rw [if_pos h4] at k
          refine ⟨fun h7 => ?_, fun h7 => ?_⟩
          · try rw [if_pos h7] at k
            exact k
          · try rw [if_neg h7] at k
            unfold wc_X1_isInForm_98
            refine ⟨fun h8 => ?_, fun h8 => ?_⟩
            · try rw [if_neg h8] at k
              exact k
            · try rw [if_pos h8] at k
              refine ⟨fun h9 => ?_, fun h9 => ?_⟩
              · try rw [if_pos h9] at k
                exact k
              · try rw [if_neg h9] at k
                exact k
      · try rw [if_pos h3] at k
        refine ⟨fun h10 => ?_, fun h10 => ?_⟩
        · try rw [if_pos h10] at k
          exact k
        · try rw [if_neg h10] at k
          refine ⟨fun h11 => ?_, fun h11 => ?_⟩
          · try rw [if_pos h11] at k
            exact k
          · try rw [if_neg h11] at k
            refine ⟨fun h12 => ?_, fun h12 => ?_⟩
            · try rw [if_pos h12] at k
              exact k
            · try rw [if_neg h12] at k
              refine ⟨fun h13 => ?_, fun h13 => ?_⟩
              · try rw [if_neg h13] at k
                exact k
              · try rw [if_pos h13] at k
                exact k
    · try rw [if_pos h2] at k
      refine ⟨fun h14 => ?_, fun h14 => ?_⟩
      · try rw [if_pos h14] at k
        exact k
      · try rw [if_neg h14] at k
        exact k
  · try rw [if_pos h1] at k
    try rw [if_pos h1] at g
    refine ⟨fun h15 => ?_, fun h15 => ?_⟩
    · try rw [if_pos h15] at k
      try rw [if_pos h15] at g
      unfold wc_X1_isInForm_22
      refine fw_X11_isFrom ⟨_, rfl, ?_⟩
      refine ⟨g, ?_⟩
      exact k
    · try rw [if_neg h15] at k
      try rw [if_neg h15] at g
      unfold wc_X1_isInForm_22
      refine fw_X11_isFrom ⟨_, rfl, ?_⟩
      refine ⟨g, ?_⟩
      exact k
def fx_X1_bit (a0 : Int32) (a1 : Int32) (z : tq_S) : Int64 := ((1 : Int64) <<< ((Int32.toInt64 (((8 : Int32) * a1) + a0)) &&& 63))
theorem fw_X1_bit {Q : tq_O → tq_S → Prop} {a0 : Int32} {a1 : Int32} {z : tq_S} (k : Q (.inl (some (.long (fx_X1_bit a0 a1 z)))) z) : wm_X1_bit a0 a1 z Q := by
  unfold wm_X1_bit
  unfold fx_X1_bit at k
  exact k
def fx_X1_holds (a1 : Int32) (a2 : Int32) (z : tq_S) : Int32 := (if a1 < 0 then (0 : Int32) else (if (tq_fi z 64) ≤ a1 then (0 : Int32) else (if a2 < 0 then (0 : Int32) else (if (tq_fi z 65) ≤ a2 then (0 : Int32) else (if (((Int64.toUInt64 (tq_fl z 67)) >>> ((Int32.toInt64 (((8 : Int32) * a2) + a1)).toUInt64 &&& Int64.toUInt64 63)).toInt64 &&& (1 : Int64)) = (0 : Int64) then (0 : Int32) else (1 : Int32))))))
theorem fw_X1_holds {Q : tq_O → tq_S → Prop} {a1 : Int32} {a2 : Int32} {z : tq_S} (k : Q (.inl (some (.int (fx_X1_holds a1 a2 z)))) z) : wm_X1_holds a1 a2 z Q := by
  unfold wm_X1_holds
  unfold fx_X1_holds at k
  refine ⟨fun h1 => ?_, fun h1 => ?_⟩
  · try rw [if_pos h1] at k
    exact k
  · try rw [if_neg h1] at k
    refine ⟨fun h2 => ?_, fun h2 => ?_⟩
    · try rw [if_pos h2] at k
      exact k
    · try rw [if_neg h2] at k
      refine ⟨fun h3 => ?_, fun h3 => ?_⟩
      · try rw [if_pos h3] at k
        exact k
      · try rw [if_neg h3] at k
        refine ⟨fun h4 => ?_, fun h4 => ?_⟩
        · try rw [if_pos h4] at k
          exact k
        · try rw [if_neg h4] at k
          refine ⟨fun h5 => ?_, fun h5 => ?_⟩
          · try rw [if_pos h5] at k
            exact k
          · try rw [if_neg h5] at k
            exact k
def fz_X1_change (a1 : Int32) (a2 : Int32) (z : tq_S) : tq_S := (tq_sfi (tq_sfl z 67 ((tq_fl z 67) ^^^ (fx_X1_bit a1 a2 z))) 68 ((tq_fi (tq_sfl z 67 ((tq_fl z 67) ^^^ (fx_X1_bit a1 a2 z))) 68) + (1 : Int32)))
theorem fw_X1_change {Q : tq_O → tq_S → Prop} {a1 : Int32} {a2 : Int32} {z : tq_S} (k : Q (.inl none) (fz_X1_change a1 a2 z)) : wm_X1_change a1 a2 z Q := by
  unfold wm_X1_change
  unfold fz_X1_change at k
  refine fw_X1_bit ⟨_, rfl, ?_⟩
  intro z3_ e_
  subst e_
  intro z4_ e_
  subst e_
  exact k
def fx_X1_isWithin (a1 : Int32) (a2 : Int32) (z : tq_S) : Int32 := (if a1 < 0 then (0 : Int32) else (if (tq_fi z 64) ≤ a1 then (0 : Int32) else (if a2 < 0 then (0 : Int32) else (if (tq_fi z 65) ≤ a2 then (0 : Int32) else (1 : Int32)))))
theorem fw_X1_isWithin {Q : tq_O → tq_S → Prop} {a1 : Int32} {a2 : Int32} {z : tq_S} (k : Q (.inl (some (.int (fx_X1_isWithin a1 a2 z)))) z) : wm_X1_isWithin a1 a2 z Q := by
  unfold wm_X1_isWithin
  unfold fx_X1_isWithin at k
  refine ⟨fun h1 => ?_, fun h1 => ?_⟩
  · try rw [if_pos h1] at k
    exact k
  · try rw [if_neg h1] at k
    refine ⟨fun h2 => ?_, fun h2 => ?_⟩
    · try rw [if_pos h2] at k
      exact k
    · try rw [if_neg h2] at k
      refine ⟨fun h3 => ?_, fun h3 => ?_⟩
      · try rw [if_pos h3] at k
        exact k
      · try rw [if_neg h3] at k
        refine ⟨fun h4 => ?_, fun h4 => ?_⟩
        · try rw [if_pos h4] at k
          exact k
        · try rw [if_neg h4] at k
          exact k
def fx_X1_canBeRolled  (z : tq_S) : Int32 := (if ((tq_fi z 64) - (tq_fi z 64) / (2 : Int32) * (2 : Int32)) = 0 then (if (tq_fi z 64) < (4 : Int32) then (0 : Int32) else (1 : Int32)) else (0 : Int32))
theorem fw_X1_canBeRolled {Q : tq_O → tq_S → Prop}  {z : tq_S} (k : Q (.inl (some (.int (fx_X1_canBeRolled  z)))) z) : wm_X1_canBeRolled  z Q := by
  unfold wm_X1_canBeRolled
  unfold fx_X1_canBeRolled at k
  refine ⟨fun h1 => ?_, fun h1 => ?_⟩
  · try rw [if_neg h1] at k
    exact k
  · try rw [if_pos h1] at k
    refine ⟨fun h2 => ?_, fun h2 => ?_⟩
    · try rw [if_pos h2] at k
      exact k
    · try rw [if_neg h2] at k
      exact k
def fz_X1_turnRound (a1 : Int32) (z : tq_S) : tq_S := (tq_sfi (tq_sfi z 66 a1) 68 ((tq_fi (tq_sfi z 66 a1) 68) + (1 : Int32)))
def fg_X1_turnRound (a1 : Int32) (z : tq_S) : Prop := (tq_nz a1)
theorem fw_X1_turnRound {Q : tq_O → tq_S → Prop} {a1 : Int32} {z : tq_S} (g : fg_X1_turnRound a1 z) (k : Q (.inl none) (fz_X1_turnRound a1 z)) : wm_X1_turnRound a1 z Q := by
  unfold wm_X1_turnRound
  unfold fg_X1_turnRound at g
  unfold fz_X1_turnRound at k
  refine ⟨g, ?_⟩
  intro z1_ e_
  subst e_
  intro z2_ e_
  subst e_
  exact k
def fx_X11_has (a1 : Int32) (a2 : Int32) (z : tq_S) : Int32 := (fx_X1_holds a1 a2 z)
def fg_X11_has (a1 : Int32) (a2 : Int32) (z : tq_S) : Prop := (tq_nz (fx_X1_holds a1 a2 z))
theorem fw_X11_has {Q : tq_O → tq_S → Prop} {a1 : Int32} {a2 : Int32} {z : tq_S} (g : fg_X11_has a1 a2 z) (k : Q (.inl (some (.int (fx_X11_has a1 a2 z)))) z) : wm_X11_has a1 a2 z Q := by
  unfold wm_X11_has
  unfold fg_X11_has at g
  unfold fx_X11_has at k
  refine fw_X1_holds ⟨_, rfl, ?_⟩
  refine ⟨g, ?_⟩
  exact k
def fx_X1_beside (a1 : Int64) (z : tq_S) : Int64 := (if (tq_fi z 66) = 0 then (((((a1 <<< ((Int32.toInt64 (8 : Int32)) &&& 63)) ||| ((Int64.toUInt64 a1) >>> ((Int32.toInt64 (8 : Int32)).toUInt64 &&& Int64.toUInt64 63)).toInt64) ||| ((a1 &&& ((-9187201950435737472 : Int64) ^^^ (-1 : Int64))) <<< ((Int32.toInt64 (1 : Int32)) &&& 63))) ||| ((Int64.toUInt64 (a1 &&& (-72340172838076674 : Int64))) >>> ((Int32.toInt64 (1 : Int32)).toUInt64 &&& Int64.toUInt64 63)).toInt64)) else (((((((((a1 <<< ((Int32.toInt64 (8 : Int32)) &&& 63)) ||| ((Int64.toUInt64 a1) >>> ((Int32.toInt64 (8 : Int32)).toUInt64 &&& Int64.toUInt64 63)).toInt64) ||| ((a1 &&& ((-9187201950435737472 : Int64) ^^^ (-1 : Int64))) <<< ((Int32.toInt64 (1 : Int32)) &&& 63))) ||| ((Int64.toUInt64 (a1 &&& (-72340172838076674 : Int64))) >>> ((Int32.toInt64 (1 : Int32)).toUInt64 &&& Int64.toUInt64 63)).toInt64)) ||| ((a1 &&& (72340172838076673 : Int64)) <<< ((Int32.toInt64 ((tq_fi z 64) - (1 : Int32))) &&& 63)))) ||| (((Int64.toUInt64 a1) >>> ((Int32.toInt64 ((tq_fi z 64) - (1 : Int32))).toUInt64 &&& Int64.toUInt64 63)).toInt64 &&& (72340172838076673 : Int64)))))
theorem fw_X1_beside {Q : tq_O → tq_S → Prop} {a1 : Int64} {z : tq_S} (k : Q (.inl (some (.long (fx_X1_beside a1 z)))) z) : wm_X1_beside a1 z Q := by
  unfold wm_X1_beside
  unfold fx_X1_beside at k
  intro v1_ e_
  subst e_
  refine ⟨fun h1 => ?_, fun h1 => ?_⟩
  · try rw [if_pos h1] at k
    exact k
  · try rw [if_neg h1] at k
    intro v2_ e_
    subst e_
    intro v3_ e_
    subst e_
    exact k
def fx_X5_onward (a1 : Int32) (a2 : Int32) (z : tq_S) : Int64 := (if 0 ≤ a2 then (tq_al z 4 (Int32.toNatClampNeg (((a1 + (1 : Int32)) * (512 : Int32)) + a2))) else (0 : Int64))
def fg_X5_onward (a1 : Int32) (a2 : Int32) (z : tq_S) : Prop := (if 0 ≤ a2 then (vp_in (((a1 + (1 : Int32)) * (512 : Int32)) + a2) 4608) else True)
theorem fw_X5_onward {Q : tq_O → tq_S → Prop} {a1 : Int32} {a2 : Int32} {z : tq_S} (g : fg_X5_onward a1 a2 z) (k : Q (.inl (some (.long (fx_X5_onward a1 a2 z)))) z) : wm_X5_onward a1 a2 z Q := by
  unfold wm_X5_onward
  unfold fg_X5_onward at g
  unfold fx_X5_onward at k
  refine ⟨fun h1 => ?_, fun h1 => ?_⟩
  · try rw [if_pos h1] at k
    try rw [if_pos h1] at g
    refine ⟨g, ?_⟩
    exact k
  · try rw [if_neg h1] at k
    try rw [if_neg h1] at g
    clear g
    exact k
def fx_J9_abs_067f4 (a0 : Int64) (z : tq_S) : Int64 := (if (0 : Int64) ≤ a0 then a0 else (-a0))
theorem fw_J9_abs_067f4 {Q : tq_O → tq_S → Prop} {a0 : Int64} {z : tq_S} (k : Q (.inl (some (.long (fx_J9_abs_067f4 a0 z)))) z) : wm_J9_abs_067f4 a0 z Q := by
  unfold wm_J9_abs_067f4
  unfold fx_J9_abs_067f4 at k
  refine ⟨fun h1 => ?_, fun h1 => ?_⟩
  · try rw [if_pos h1] at k
    exact k
  · try rw [if_neg h1] at k
    exact k
def fx_J9_max_7cf53 (a0 : Int32) (a1 : Int32) (z : tq_S) : Int32 := (if a0 < a1 then a1 else a0)
theorem fw_J9_max_7cf53 {Q : tq_O → tq_S → Prop} {a0 : Int32} {a1 : Int32} {z : tq_S} (k : Q (.inl (some (.int (fx_J9_max_7cf53 a0 a1 z)))) z) : wm_J9_max_7cf53 a0 a1 z Q := by
  unfold wm_J9_max_7cf53
  unfold fx_J9_max_7cf53 at k
  refine ⟨fun h1 => ?_, fun h1 => ?_⟩
  · try rw [if_pos h1] at k
    exact k
  · try rw [if_neg h1] at k
    exact k
def fx_X3_prime (a0 : Int32) (z : tq_S) : Int64 := (if a0 = 0 then (2147483647 : Int64) else (if a0 = (1 : Int32) then (2147483629 : Int64) else (2147483587 : Int64)))
theorem fw_X3_prime {Q : tq_O → tq_S → Prop} {a0 : Int32} {z : tq_S} (k : Q (.inl (some (.long (fx_X3_prime a0 z)))) z) : wm_X3_prime a0 z Q := by
  unfold wm_X3_prime
  unfold fx_X3_prime at k
  refine ⟨fun h1 => ?_, fun h1 => ?_⟩
  · try rw [if_neg h1] at k
    refine ⟨fun h2 => ?_, fun h2 => ?_⟩
    · try rw [if_neg h2] at k
      exact k
    · try rw [if_pos h2] at k
      exact k
  · try rw [if_pos h1] at k
    exact k
def fx_J9_floorMod_f86c9 (a0 : Int64) (a2 : Int64) (z : tq_S) : Int64 := (if (0 : Int64) ≤ (a0 ^^^ a2) then ((a0 - a0 / a2 * a2)) else (if ((a0 - a0 / a2 * a2)) = (0 : Int64) then ((a0 - a0 / a2 * a2)) else (((a0 - a0 / a2 * a2)) + a2)))
def fg_J9_floorMod_f86c9 (a0 : Int64) (a2 : Int64) (z : tq_S) : Prop := ((¬ a2 = 0))
theorem fw_J9_floorMod_f86c9 {Q : tq_O → tq_S → Prop} {a0 : Int64} {a2 : Int64} {z : tq_S} (g : fg_J9_floorMod_f86c9 a0 a2 z) (k : Q (.inl (some (.long (fx_J9_floorMod_f86c9 a0 a2 z)))) z) : wm_J9_floorMod_f86c9 a0 a2 z Q := by
  unfold wm_J9_floorMod_f86c9
  unfold fg_J9_floorMod_f86c9 at g
  unfold fx_J9_floorMod_f86c9 at k
  refine ⟨g, ?_⟩
  intro v1_ e_
  subst e_
  refine ⟨fun h1 => ?_, fun h1 => ?_⟩
  · try rw [if_pos h1] at k
    exact k
  · try rw [if_neg h1] at k
    refine ⟨fun h2 => ?_, fun h2 => ?_⟩
    · try rw [if_pos h2] at k
      exact k
    · try rw [if_neg h2] at k
      exact k
def fx_X1_rightOf (a1 : Int32) (z : tq_S) : Int32 := (if (tq_fi z 64) ≤ (a1 + (1 : Int32)) then (if (tq_fi z 66) = 0 then (-1 : Int32) else (0 : Int32)) else (a1 + (1 : Int32)))
theorem fw_X1_rightOf {Q : tq_O → tq_S → Prop} {a1 : Int32} {z : tq_S} (k : Q (.inl (some (.int (fx_X1_rightOf a1 z)))) z) : wm_X1_rightOf a1 z Q := by
  unfold wm_X1_rightOf
  unfold fx_X1_rightOf at k
  refine ⟨fun h1 => ?_, fun h1 => ?_⟩
  · try rw [if_pos h1] at k
    refine ⟨fun h2 => ?_, fun h2 => ?_⟩
    · try rw [if_pos h2] at k
      exact k
    · try rw [if_neg h2] at k
      exact k
  · try rw [if_neg h1] at k
    exact k
def fx_X1_isPiece (a1 : Int32) (a2 : Int32) (a3 : Int32) (z : tq_S) : Int32 := (if (fx_X1_holds a1 a2 z) = 0 then (0 : Int32) else (if a3 = 0 then (fx_X1_holds a1 (a2 + (1 : Int32)) z) else (fx_X1_holds (fx_X1_rightOf a1 z) a2 z)))
def fg_X1_isPiece (a1 : Int32) (a2 : Int32) (a3 : Int32) (z : tq_S) : Prop := (if (fx_X1_holds a1 a2 z) = 0 then True else (if a3 = 0 then (tq_nz (fx_X1_holds a1 (a2 + (1 : Int32)) z)) else (tq_nz (fx_X1_holds (fx_X1_rightOf a1 z) a2 z))))
theorem fw_X1_isPiece {Q : tq_O → tq_S → Prop} {a1 : Int32} {a2 : Int32} {a3 : Int32} {z : tq_S} (g : fg_X1_isPiece a1 a2 a3 z) (k : Q (.inl (some (.int (fx_X1_isPiece a1 a2 a3 z)))) z) : wm_X1_isPiece a1 a2 a3 z Q := by
  unfold wm_X1_isPiece
  unfold fg_X1_isPiece at g
  unfold fx_X1_isPiece at k
  refine fw_X1_holds ⟨_, rfl, ?_⟩
  refine ⟨fun h1 => ?_, fun h1 => ?_⟩
  · try rw [if_neg h1] at k
    try rw [if_neg h1] at g
    refine ⟨fun h2 => ?_, fun h2 => ?_⟩
    · try rw [if_pos h2] at k
      try rw [if_pos h2] at g
      refine fw_X1_holds ⟨_, rfl, ?_⟩
      refine ⟨g, ?_⟩
      exact k
    · try rw [if_neg h2] at k
      try rw [if_neg h2] at g
      refine fw_X1_rightOf ⟨_, rfl, ?_⟩
      refine fw_X1_holds ⟨_, rfl, ?_⟩
      refine ⟨g, ?_⟩
      exact k
  · try rw [if_pos h1] at k
    try rw [if_pos h1] at g
    clear g
    exact k
def fx_X5_withPiece (a1 : Int32) (a2 : Int32) (a3 : Int32) (z : tq_S) : Int64 := (if a3 = 0 then (tq_al z 7 (Int32.toNatClampNeg (((2 : Int32) * (((8 : Int32) * a2) + a1)) + (1 : Int32)))) else (tq_al z 7 (Int32.toNatClampNeg (((2 : Int32) * (((8 : Int32) * a2) + a1)) + (0 : Int32)))))
def fg_X5_withPiece (a1 : Int32) (a2 : Int32) (a3 : Int32) (z : tq_S) : Prop := (if a3 = 0 then (vp_in (((2 : Int32) * (((8 : Int32) * a2) + a1)) + (1 : Int32)) 128) else (vp_in (((2 : Int32) * (((8 : Int32) * a2) + a1)) + (0 : Int32)) 128))
theorem fw_X5_withPiece {Q : tq_O → tq_S → Prop} {a1 : Int32} {a2 : Int32} {a3 : Int32} {z : tq_S} (g : fg_X5_withPiece a1 a2 a3 z) (k : Q (.inl (some (.long (fx_X5_withPiece a1 a2 a3 z)))) z) : wm_X5_withPiece a1 a2 a3 z Q := by
  unfold wm_X5_withPiece
  unfold fg_X5_withPiece at g
  unfold fx_X5_withPiece at k
  refine ⟨fun h1 => ?_, fun h1 => ?_⟩
  · try rw [if_pos h1] at k
    try rw [if_pos h1] at g
    refine ⟨g, ?_⟩
    exact k
  · try rw [if_neg h1] at k
    try rw [if_neg h1] at g
    refine ⟨g, ?_⟩
    exact k
def fz_X5_put (a1 : Int32) (a2 : Int32) (a3 : Int32) (z : tq_S) : tq_S := (if a3 = (1 : Int32) then (if a3 = (2 : Int32) then (if a3 = (3 : Int32) then (tq_sfl (tq_sfl (tq_sfl z 136 ((tq_fl z 136) ||| (fx_X1_bit a1 a2 z))) 137 ((tq_fl (tq_sfl z 136 ((tq_fl z 136) ||| (fx_X1_bit a1 a2 z))) 137) ||| (fx_X1_bit a1 a2 (tq_sfl z 136 ((tq_fl z 136) ||| (fx_X1_bit a1 a2 z)))))) 136 ((tq_fl (tq_sfl (tq_sfl z 136 ((tq_fl z 136) ||| (fx_X1_bit a1 a2 z))) 137 ((tq_fl (tq_sfl z 136 ((tq_fl z 136) ||| (fx_X1_bit a1 a2 z))) 137) ||| (fx_X1_bit a1 a2 (tq_sfl z 136 ((tq_fl z 136) ||| (fx_X1_bit a1 a2 z)))))) 136) ||| (fx_X1_bit ((tq_fi (tq_sfl (tq_sfl z 136 ((tq_fl z 136) ||| (fx_X1_bit a1 a2 z))) 137 ((tq_fl (tq_sfl z 136 ((tq_fl z 136) ||| (fx_X1_bit a1 a2 z))) 137) ||| (fx_X1_bit a1 a2 (tq_sfl z 136 ((tq_fl z 136) ||| (fx_X1_bit a1 a2 z)))))) 64) - (1 : Int32)) a2 (tq_sfl (tq_sfl z 136 ((tq_fl z 136) ||| (fx_X1_bit a1 a2 z))) 137 ((tq_fl (tq_sfl z 136 ((tq_fl z 136) ||| (fx_X1_bit a1 a2 z))) 137) ||| (fx_X1_bit a1 a2 (tq_sfl z 136 ((tq_fl z 136) ||| (fx_X1_bit a1 a2 z))))))))) else (tq_sfl (tq_sfl z 136 ((tq_fl z 136) ||| (fx_X1_bit a1 a2 z))) 137 ((tq_fl (tq_sfl z 136 ((tq_fl z 136) ||| (fx_X1_bit a1 a2 z))) 137) ||| (fx_X1_bit a1 a2 (tq_sfl z 136 ((tq_fl z 136) ||| (fx_X1_bit a1 a2 z))))))) else (if a3 = (3 : Int32) then (tq_sfl (tq_sfl z 136 ((tq_fl z 136) ||| (fx_X1_bit a1 a2 z))) 136 ((tq_fl (tq_sfl z 136 ((tq_fl z 136) ||| (fx_X1_bit a1 a2 z))) 136) ||| (fx_X1_bit ((tq_fi (tq_sfl z 136 ((tq_fl z 136) ||| (fx_X1_bit a1 a2 z))) 64) - (1 : Int32)) a2 (tq_sfl z 136 ((tq_fl z 136) ||| (fx_X1_bit a1 a2 z)))))) else (tq_sfl z 136 ((tq_fl z 136) ||| (fx_X1_bit a1 a2 z))))) else (if a3 = (2 : Int32) then (if a3 = (3 : Int32) then (tq_sfl (tq_sfl z 137 ((tq_fl z 137) ||| (fx_X1_bit a1 a2 z))) 136 ((tq_fl (tq_sfl z 137 ((tq_fl z 137) ||| (fx_X1_bit a1 a2 z))) 136) ||| (fx_X1_bit ((tq_fi (tq_sfl z 137 ((tq_fl z 137) ||| (fx_X1_bit a1 a2 z))) 64) - (1 : Int32)) a2 (tq_sfl z 137 ((tq_fl z 137) ||| (fx_X1_bit a1 a2 z)))))) else (tq_sfl z 137 ((tq_fl z 137) ||| (fx_X1_bit a1 a2 z)))) else (if a3 = (3 : Int32) then (tq_sfl z 136 ((tq_fl z 136) ||| (fx_X1_bit ((tq_fi z 64) - (1 : Int32)) a2 z))) else z)))
theorem fw_X5_put {Q : tq_O → tq_S → Prop} {a1 : Int32} {a2 : Int32} {a3 : Int32} {z : tq_S} (k : Q (.inl none) (fz_X5_put a1 a2 a3 z)) : wm_X5_put a1 a2 a3 z Q := by
  unfold wm_X5_put
  unfold fz_X5_put at k
  refine ⟨fun h1 => ?_, fun h1 => ?_⟩
  · try rw [if_neg h1] at k
    unfold wc_X5_put_19
    refine ⟨fun h2 => ?_, fun h2 => ?_⟩
    · try rw [if_neg h2] at k
      unfold wc_X5_put_38
      refine ⟨fun h3 => ?_, fun h3 => ?_⟩
      · try rw [if_neg h3] at k
        exact k
      · try rw [if_pos h3] at k
        refine fw_X1_bit ⟨_, rfl, ?_⟩
        intro z103_ e_
        subst e_
        exact k
    · try rw [if_pos h2] at k
      refine fw_X1_bit ⟨_, rfl, ?_⟩
      intro z103_ e_
      subst e_
      unfold wc_X5_put_38
      refine ⟨fun h4 => ?_, fun h4 => ?_⟩
      · try rw [if_neg h4] at k
        exact k
      · try rw [if_pos h4] at k
        refine fw_X1_bit ⟨_, rfl, ?_⟩
        intro z103_ e_
        subst e_
        exact k
  · try rw [if_pos h1] at k
    refine fw_X1_bit ⟨_, rfl, ?_⟩
    intro z3_ e_
    subst e_
    unfold wc_X5_put_19
    refine ⟨fun h5 => ?_, fun h5 => ?_⟩
    · try rw [if_neg h5] at k
      unfold wc_X5_put_38
      refine ⟨fun h6 => ?_, fun h6 => ?_⟩
      · try rw [if_neg h6] at k
        exact k
      · try rw [if_pos h6] at k
        refine fw_X1_bit ⟨_, rfl, ?_⟩
        intro z103_ e_
        subst e_
        exact k
    · try rw [if_pos h5] at k
      refine fw_X1_bit ⟨_, rfl, ?_⟩
      intro z103_ e_
      subst e_
      unfold wc_X5_put_38
      refine ⟨fun h7 => ?_, fun h7 => ?_⟩
      · try rw [if_neg h7] at k
        exact k
      · try rw [if_pos h7] at k
        refine fw_X1_bit ⟨_, rfl, ?_⟩
        intro z103_ e_
        subst e_
        exact k
def fx_X2_codeAt (a1 : Int32) (a2 : Int32) (z : tq_S) : Int32 := (if ((tq_fl z 517) &&& (fx_X1_bit a1 a2 z)) = (0 : Int64) then (if ((tq_fl z 518) &&& (fx_X1_bit a1 a2 z)) = (0 : Int64) then (if a1 ≤ 0 then (if ((tq_fl z 517) &&& (fx_X1_bit ((tq_fi z 64) - (1 : Int32)) a2 z)) = (0 : Int64) then (110 : Int32) else (119 : Int32)) else (if ((tq_fl z 517) &&& (fx_X1_bit (a1 - (1 : Int32)) a2 z)) = (0 : Int64) then (110 : Int32) else (119 : Int32))) else (115 : Int32)) else (101 : Int32))
theorem fw_X2_codeAt {Q : tq_O → tq_S → Prop} {a1 : Int32} {a2 : Int32} {z : tq_S} (k : Q (.inl (some (.int (fx_X2_codeAt a1 a2 z)))) z) : wm_X2_codeAt a1 a2 z Q := by
  unfold wm_X2_codeAt
  unfold fx_X2_codeAt at k
  refine fw_X1_bit ⟨_, rfl, ?_⟩
  refine ⟨fun h1 => ?_, fun h1 => ?_⟩
  · try rw [if_pos h1] at k
    refine fw_X1_bit ⟨_, rfl, ?_⟩
    refine ⟨fun h2 => ?_, fun h2 => ?_⟩
    · try rw [if_pos h2] at k
      refine ⟨fun h3 => ?_, fun h3 => ?_⟩
      · try rw [if_pos h3] at k
        unfold wc_X2_codeAt_55
        refine fw_X1_bit ⟨_, rfl, ?_⟩
        refine ⟨fun h4 => ?_, fun h4 => ?_⟩
        · try rw [if_pos h4] at k
          exact k
        · try rw [if_neg h4] at k
          exact k
      · try rw [if_neg h3] at k
        unfold wc_X2_codeAt_55
        refine fw_X1_bit ⟨_, rfl, ?_⟩
        refine ⟨fun h5 => ?_, fun h5 => ?_⟩
        · try rw [if_pos h5] at k
          exact k
        · try rw [if_neg h5] at k
          exact k
    · try rw [if_neg h2] at k
      exact k
  · try rw [if_neg h1] at k
    exact k
def fx_X2_acrossPair (a1 : Int32) (a2 : Int32) (z : tq_S) : Int64 := ((fx_X1_bit a1 a2 z) ||| (fx_X1_bit a1 (a2 + (1 : Int32)) z))
theorem fw_X2_acrossPair {Q : tq_O → tq_S → Prop} {a1 : Int32} {a2 : Int32} {z : tq_S} (k : Q (.inl (some (.long (fx_X2_acrossPair a1 a2 z)))) z) : wm_X2_acrossPair a1 a2 z Q := by
  unfold wm_X2_acrossPair
  unfold fx_X2_acrossPair at k
  refine fw_X1_bit ⟨_, rfl, ?_⟩
  refine fw_X1_bit ⟨_, rfl, ?_⟩
  exact k
def fx_X2_downPair (a1 : Int32) (a2 : Int32) (z : tq_S) : Int64 := ((fx_X1_bit a1 a2 z) ||| (fx_X1_bit (fx_X1_rightOf a1 z) a2 z))
theorem fw_X2_downPair {Q : tq_O → tq_S → Prop} {a1 : Int32} {a2 : Int32} {z : tq_S} (k : Q (.inl (some (.long (fx_X2_downPair a1 a2 z)))) z) : wm_X2_downPair a1 a2 z Q := by
  unfold wm_X2_downPair
  unfold fx_X2_downPair at k
  refine fw_X1_bit ⟨_, rfl, ?_⟩
  refine fw_X1_rightOf ⟨_, rfl, ?_⟩
  refine fw_X1_bit ⟨_, rfl, ?_⟩
  exact k
def fx_X2_canFlip (a1 : Int32) (a2 : Int32) (z : tq_S) : Int32 := (if (fx_X1_rightOf a1 z) < 0 then (0 : Int32) else (if (a2 + (1 : Int32)) < (tq_fi z 65) then (if ((tq_fl z 517) &&& (fx_X2_acrossPair a1 a2 z)) = (fx_X2_acrossPair a1 a2 z) then (1 : Int32) else (if ((tq_fl z 518) &&& (fx_X2_downPair a1 a2 z)) = (fx_X2_downPair a1 a2 z) then (1 : Int32) else (0 : Int32))) else (0 : Int32)))
theorem fw_X2_canFlip {Q : tq_O → tq_S → Prop} {a1 : Int32} {a2 : Int32} {z : tq_S} (k : Q (.inl (some (.int (fx_X2_canFlip a1 a2 z)))) z) : wm_X2_canFlip a1 a2 z Q := by
  unfold wm_X2_canFlip
  unfold fx_X2_canFlip at k
  refine fw_X1_rightOf ⟨_, rfl, ?_⟩
  refine ⟨fun h1 => ?_, fun h1 => ?_⟩
  · try rw [if_pos h1] at k
    exact k
  · try rw [if_neg h1] at k
    refine ⟨fun h2 => ?_, fun h2 => ?_⟩
    · try rw [if_pos h2] at k
      refine fw_X2_acrossPair ⟨_, rfl, ?_⟩
      refine fw_X2_downPair ⟨_, rfl, ?_⟩
      refine ⟨fun h3 => ?_, fun h3 => ?_⟩
      · try rw [if_pos h3] at k
        exact k
      · try rw [if_neg h3] at k
        refine ⟨fun h4 => ?_, fun h4 => ?_⟩
        · try rw [if_neg h4] at k
          exact k
        · try rw [if_pos h4] at k
          exact k
    · try rw [if_neg h2] at k
      exact k
def fx_X2_rightFlipped (a1 : Int32) (z : tq_S) : Int64 := ((tq_fl z 517) ^^^ (fx_X2_acrossPair (a1 - a1 / (8 : Int32) * (8 : Int32)) (a1 / (8 : Int32)) z))
theorem fw_X2_rightFlipped {Q : tq_O → tq_S → Prop} {a1 : Int32} {z : tq_S} (k : Q (.inl (some (.long (fx_X2_rightFlipped a1 z)))) z) : wm_X2_rightFlipped a1 z Q := by
  unfold wm_X2_rightFlipped
  unfold fx_X2_rightFlipped at k
  refine fw_X2_acrossPair ⟨_, rfl, ?_⟩
  exact k
def fx_X2_downFlipped (a1 : Int32) (z : tq_S) : Int64 := ((tq_fl z 518) ^^^ (fx_X2_downPair (a1 - a1 / (8 : Int32) * (8 : Int32)) (a1 / (8 : Int32)) z))
theorem fw_X2_downFlipped {Q : tq_O → tq_S → Prop} {a1 : Int32} {z : tq_S} (k : Q (.inl (some (.long (fx_X2_downFlipped a1 z)))) z) : wm_X2_downFlipped a1 z Q := by
  unfold wm_X2_downFlipped
  unfold fx_X2_downFlipped at k
  refine fw_X2_downPair ⟨_, rfl, ?_⟩
  exact k
def fz_X2_takeBack  (z : tq_S) : tq_S := (if (tq_fi z 522) ≤ 0 then z else (tq_sfi (tq_sfl (tq_sfl (tq_sfi z 522 ((tq_fi z 522) - (1 : Int32))) 517 (tq_al (tq_sfi z 522 ((tq_fi z 522) - (1 : Int32))) 9 (Int32.toNatClampNeg (tq_fi (tq_sfi z 522 ((tq_fi z 522) - (1 : Int32))) 522)))) 518 (tq_al (tq_sfl (tq_sfi z 522 ((tq_fi z 522) - (1 : Int32))) 517 (tq_al (tq_sfi z 522 ((tq_fi z 522) - (1 : Int32))) 9 (Int32.toNatClampNeg (tq_fi (tq_sfi z 522 ((tq_fi z 522) - (1 : Int32))) 522)))) 10 (Int32.toNatClampNeg (tq_fi (tq_sfl (tq_sfi z 522 ((tq_fi z 522) - (1 : Int32))) 517 (tq_al (tq_sfi z 522 ((tq_fi z 522) - (1 : Int32))) 9 (Int32.toNatClampNeg (tq_fi (tq_sfi z 522 ((tq_fi z 522) - (1 : Int32))) 522)))) 522)))) 516 (tq_ai (tq_sfl (tq_sfl (tq_sfi z 522 ((tq_fi z 522) - (1 : Int32))) 517 (tq_al (tq_sfi z 522 ((tq_fi z 522) - (1 : Int32))) 9 (Int32.toNatClampNeg (tq_fi (tq_sfi z 522 ((tq_fi z 522) - (1 : Int32))) 522)))) 518 (tq_al (tq_sfl (tq_sfi z 522 ((tq_fi z 522) - (1 : Int32))) 517 (tq_al (tq_sfi z 522 ((tq_fi z 522) - (1 : Int32))) 9 (Int32.toNatClampNeg (tq_fi (tq_sfi z 522 ((tq_fi z 522) - (1 : Int32))) 522)))) 10 (Int32.toNatClampNeg (tq_fi (tq_sfl (tq_sfi z 522 ((tq_fi z 522) - (1 : Int32))) 517 (tq_al (tq_sfi z 522 ((tq_fi z 522) - (1 : Int32))) 9 (Int32.toNatClampNeg (tq_fi (tq_sfi z 522 ((tq_fi z 522) - (1 : Int32))) 522)))) 522)))) 11 (Int32.toNatClampNeg (tq_fi (tq_sfl (tq_sfl (tq_sfi z 522 ((tq_fi z 522) - (1 : Int32))) 517 (tq_al (tq_sfi z 522 ((tq_fi z 522) - (1 : Int32))) 9 (Int32.toNatClampNeg (tq_fi (tq_sfi z 522 ((tq_fi z 522) - (1 : Int32))) 522)))) 518 (tq_al (tq_sfl (tq_sfi z 522 ((tq_fi z 522) - (1 : Int32))) 517 (tq_al (tq_sfi z 522 ((tq_fi z 522) - (1 : Int32))) 9 (Int32.toNatClampNeg (tq_fi (tq_sfi z 522 ((tq_fi z 522) - (1 : Int32))) 522)))) 10 (Int32.toNatClampNeg (tq_fi (tq_sfl (tq_sfi z 522 ((tq_fi z 522) - (1 : Int32))) 517 (tq_al (tq_sfi z 522 ((tq_fi z 522) - (1 : Int32))) 9 (Int32.toNatClampNeg (tq_fi (tq_sfi z 522 ((tq_fi z 522) - (1 : Int32))) 522)))) 522)))) 522)))))
def fg_X2_takeBack  (z : tq_S) : Prop := (if (tq_fi z 522) ≤ 0 then True else (vp_in (tq_fi (tq_sfi z 522 ((tq_fi z 522) - (1 : Int32))) 522) 10 ∧ (vp_in (tq_fi (tq_sfl (tq_sfi z 522 ((tq_fi z 522) - (1 : Int32))) 517 (tq_al (tq_sfi z 522 ((tq_fi z 522) - (1 : Int32))) 9 (Int32.toNatClampNeg (tq_fi (tq_sfi z 522 ((tq_fi z 522) - (1 : Int32))) 522)))) 522) 10 ∧ (vp_in (tq_fi (tq_sfl (tq_sfl (tq_sfi z 522 ((tq_fi z 522) - (1 : Int32))) 517 (tq_al (tq_sfi z 522 ((tq_fi z 522) - (1 : Int32))) 9 (Int32.toNatClampNeg (tq_fi (tq_sfi z 522 ((tq_fi z 522) - (1 : Int32))) 522)))) 518 (tq_al (tq_sfl (tq_sfi z 522 ((tq_fi z 522) - (1 : Int32))) 517 (tq_al (tq_sfi z 522 ((tq_fi z 522) - (1 : Int32))) 9 (Int32.toNatClampNeg (tq_fi (tq_sfi z 522 ((tq_fi z 522) - (1 : Int32))) 522)))) 10 (Int32.toNatClampNeg (tq_fi (tq_sfl (tq_sfi z 522 ((tq_fi z 522) - (1 : Int32))) 517 (tq_al (tq_sfi z 522 ((tq_fi z 522) - (1 : Int32))) 9 (Int32.toNatClampNeg (tq_fi (tq_sfi z 522 ((tq_fi z 522) - (1 : Int32))) 522)))) 522)))) 522) 10 ∧ (tq_nz (tq_ai (tq_sfl (tq_sfl (tq_sfi z 522 ((tq_fi z 522) - (1 : Int32))) 517 (tq_al (tq_sfi z 522 ((tq_fi z 522) - (1 : Int32))) 9 (Int32.toNatClampNeg (tq_fi (tq_sfi z 522 ((tq_fi z 522) - (1 : Int32))) 522)))) 518 (tq_al (tq_sfl (tq_sfi z 522 ((tq_fi z 522) - (1 : Int32))) 517 (tq_al (tq_sfi z 522 ((tq_fi z 522) - (1 : Int32))) 9 (Int32.toNatClampNeg (tq_fi (tq_sfi z 522 ((tq_fi z 522) - (1 : Int32))) 522)))) 10 (Int32.toNatClampNeg (tq_fi (tq_sfl (tq_sfi z 522 ((tq_fi z 522) - (1 : Int32))) 517 (tq_al (tq_sfi z 522 ((tq_fi z 522) - (1 : Int32))) 9 (Int32.toNatClampNeg (tq_fi (tq_sfi z 522 ((tq_fi z 522) - (1 : Int32))) 522)))) 522)))) 11 (Int32.toNatClampNeg (tq_fi (tq_sfl (tq_sfl (tq_sfi z 522 ((tq_fi z 522) - (1 : Int32))) 517 (tq_al (tq_sfi z 522 ((tq_fi z 522) - (1 : Int32))) 9 (Int32.toNatClampNeg (tq_fi (tq_sfi z 522 ((tq_fi z 522) - (1 : Int32))) 522)))) 518 (tq_al (tq_sfl (tq_sfi z 522 ((tq_fi z 522) - (1 : Int32))) 517 (tq_al (tq_sfi z 522 ((tq_fi z 522) - (1 : Int32))) 9 (Int32.toNatClampNeg (tq_fi (tq_sfi z 522 ((tq_fi z 522) - (1 : Int32))) 522)))) 10 (Int32.toNatClampNeg (tq_fi (tq_sfl (tq_sfi z 522 ((tq_fi z 522) - (1 : Int32))) 517 (tq_al (tq_sfi z 522 ((tq_fi z 522) - (1 : Int32))) 9 (Int32.toNatClampNeg (tq_fi (tq_sfi z 522 ((tq_fi z 522) - (1 : Int32))) 522)))) 522)))) 522))))))))
theorem fw_X2_takeBack {Q : tq_O → tq_S → Prop}  {z : tq_S} (g : fg_X2_takeBack  z) (k : Q (.inl none) (fz_X2_takeBack  z)) : wm_X2_takeBack  z Q := by
  unfold wm_X2_takeBack
  unfold fg_X2_takeBack at g
  unfold fz_X2_takeBack at k
  refine ⟨fun h1 => ?_, fun h1 => ?_⟩
  · try rw [if_pos h1] at k
    try rw [if_pos h1] at g
    clear g
    exact k
  · try rw [if_neg h1] at k
    try rw [if_neg h1] at g
    intro z1_ e_
    subst e_
    refine ⟨g.1, ?_⟩
    replace g := g.2
    intro z2_ e_
    subst e_
    refine ⟨g.1, ?_⟩
    replace g := g.2
    intro z3_ e_
    subst e_
    refine ⟨g.1, ?_⟩
    replace g := g.2
    refine ⟨g, ?_⟩
    intro z4_ e_
    subst e_
    exact k
def fz_X2_store  (z : tq_S) : tq_S := (tq_sfi (tq_sfl (tq_sfl z 520 (tq_fl z 517)) 521 (tq_fl (tq_sfl z 520 (tq_fl z 517)) 518)) 519 (1 : Int32))
theorem fw_X2_store {Q : tq_O → tq_S → Prop}  {z : tq_S} (k : Q (.inl none) (fz_X2_store  z)) : wm_X2_store  z Q := by
  unfold wm_X2_store
  unfold fz_X2_store at k
  intro z1_ e_
  subst e_
  intro z2_ e_
  subst e_
  intro z3_ e_
  subst e_
  exact k
def fx_X7_isCorner (a1 : Int32) (a2 : Int32) (z : tq_S) : Int32 := (if a1 < 0 then (0 : Int32) else (if (tq_fi z 64) < a1 then (0 : Int32) else (if a2 < 0 then (0 : Int32) else (if a2 ≤ (tq_fi z 65) then (if (fx_X1_holds a1 a2 z) = 0 then (if (fx_X1_holds (a1 - (1 : Int32)) a2 z) = 0 then (if (fx_X1_holds a1 (a2 - (1 : Int32)) z) = 0 then (if (fx_X1_holds (a1 - (1 : Int32)) (a2 - (1 : Int32)) z) = 0 then (0 : Int32) else (1 : Int32)) else (1 : Int32)) else (1 : Int32)) else (1 : Int32)) else (0 : Int32)))))
theorem fw_X7_isCorner {Q : tq_O → tq_S → Prop} {a1 : Int32} {a2 : Int32} {z : tq_S} (k : Q (.inl (some (.int (fx_X7_isCorner a1 a2 z)))) z) : wm_X7_isCorner a1 a2 z Q := by
  unfold wm_X7_isCorner
  unfold fx_X7_isCorner at k
  refine ⟨fun h1 => ?_, fun h1 => ?_⟩
  · try rw [if_pos h1] at k
    exact k
  · try rw [if_neg h1] at k
    refine ⟨fun h2 => ?_, fun h2 => ?_⟩
    · try rw [if_pos h2] at k
      exact k
    · try rw [if_neg h2] at k
      refine ⟨fun h3 => ?_, fun h3 => ?_⟩
      · try rw [if_pos h3] at k
        exact k
      · try rw [if_neg h3] at k
        refine ⟨fun h4 => ?_, fun h4 => ?_⟩
        · try rw [if_pos h4] at k
          refine fw_X1_holds ⟨_, rfl, ?_⟩
          refine ⟨fun h5 => ?_, fun h5 => ?_⟩
          · try rw [if_neg h5] at k
            exact k
          · try rw [if_pos h5] at k
            refine fw_X1_holds ⟨_, rfl, ?_⟩
            refine ⟨fun h6 => ?_, fun h6 => ?_⟩
            · try rw [if_neg h6] at k
              exact k
            · try rw [if_pos h6] at k
              refine fw_X1_holds ⟨_, rfl, ?_⟩
              refine ⟨fun h7 => ?_, fun h7 => ?_⟩
              · try rw [if_neg h7] at k
                exact k
              · try rw [if_pos h7] at k
                refine fw_X1_holds ⟨_, rfl, ?_⟩
                refine ⟨fun h8 => ?_, fun h8 => ?_⟩
                · try rw [if_pos h8] at k
                  exact k
                · try rw [if_neg h8] at k
                  exact k
        · try rw [if_neg h4] at k
          exact k
def fx_X7_rise (a1 : Int32) (a2 : Int32) (z : tq_S) : Int32 := (if a2 = 0 then (if a1 = 0 then (-(1 : Int32)) else (1 : Int32)) else (if a1 = 0 then (-(-3 : Int32)) else (-3 : Int32)))
theorem fw_X7_rise {Q : tq_O → tq_S → Prop} {a1 : Int32} {a2 : Int32} {z : tq_S} (k : Q (.inl (some (.int (fx_X7_rise a1 a2 z)))) z) : wm_X7_rise a1 a2 z Q := by
  unfold wm_X7_rise
  unfold fx_X7_rise at k
  refine ⟨fun h1 => ?_, fun h1 => ?_⟩
  · try rw [if_pos h1] at k
    unfold wc_X7_rise_10
    refine ⟨fun h2 => ?_, fun h2 => ?_⟩
    · try rw [if_pos h2] at k
      exact k
    · try rw [if_neg h2] at k
      exact k
  · try rw [if_neg h1] at k
    unfold wc_X7_rise_10
    refine ⟨fun h3 => ?_, fun h3 => ?_⟩
    · try rw [if_pos h3] at k
      exact k
    · try rw [if_neg h3] at k
      exact k
def fx_X7_riseRight (a1 : Int32) (a2 : Int32) (z : tq_S) : Int32 := (if (fx_X1_holds a1 (a2 - (1 : Int32)) z) = 0 then (if (fx_X1_holds a1 a2 z) = 0 then (0 : Int32) else (if (fx_X1_holds a1 (a2 - (1 : Int32)) z) = 0 then (if (((a1 + a2) - (1 : Int32)) - ((a1 + a2) - (1 : Int32)) / (2 : Int32) * (2 : Int32)) = 0 then (fx_X7_rise (1 : Int32) (0 : Int32) z) else (fx_X7_rise (0 : Int32) (0 : Int32) z)) else (if ((tq_fl z 773) &&& (fx_X1_bit a1 (a2 - (1 : Int32)) z)) = (0 : Int64) then (if (((a1 + a2) - (1 : Int32)) - ((a1 + a2) - (1 : Int32)) / (2 : Int32) * (2 : Int32)) = 0 then (fx_X7_rise (1 : Int32) (0 : Int32) z) else (fx_X7_rise (0 : Int32) (0 : Int32) z)) else (if (((a1 + a2) - (1 : Int32)) - ((a1 + a2) - (1 : Int32)) / (2 : Int32) * (2 : Int32)) = 0 then (fx_X7_rise (1 : Int32) (1 : Int32) z) else (fx_X7_rise (0 : Int32) (1 : Int32) z))))) else (if (fx_X1_holds a1 (a2 - (1 : Int32)) z) = 0 then (if (((a1 + a2) - (1 : Int32)) - ((a1 + a2) - (1 : Int32)) / (2 : Int32) * (2 : Int32)) = 0 then (fx_X7_rise (1 : Int32) (0 : Int32) z) else (fx_X7_rise (0 : Int32) (0 : Int32) z)) else (if ((tq_fl z 773) &&& (fx_X1_bit a1 (a2 - (1 : Int32)) z)) = (0 : Int64) then (if (((a1 + a2) - (1 : Int32)) - ((a1 + a2) - (1 : Int32)) / (2 : Int32) * (2 : Int32)) = 0 then (fx_X7_rise (1 : Int32) (0 : Int32) z) else (fx_X7_rise (0 : Int32) (0 : Int32) z)) else (if (((a1 + a2) - (1 : Int32)) - ((a1 + a2) - (1 : Int32)) / (2 : Int32) * (2 : Int32)) = 0 then (fx_X7_rise (1 : Int32) (1 : Int32) z) else (fx_X7_rise (0 : Int32) (1 : Int32) z)))))
theorem fw_X7_riseRight {Q : tq_O → tq_S → Prop} {a1 : Int32} {a2 : Int32} {z : tq_S} (k : Q (.inl (some (.int (fx_X7_riseRight a1 a2 z)))) z) : wm_X7_riseRight a1 a2 z Q := by
  unfold wm_X7_riseRight
  unfold fx_X7_riseRight at k
  refine fw_X1_holds ⟨_, rfl, ?_⟩
  refine ⟨fun h1 => ?_, fun h1 => ?_⟩
  · try rw [if_neg h1] at k
    unfold wc_X7_riseRight_30
    refine ⟨fun h2 => ?_, fun h2 => ?_⟩
    · try rw [if_pos h2] at k
      unfold wc_X7_riseRight_55
      unfold wc_X7_riseRight_56
      refine ⟨fun h3 => ?_, fun h3 => ?_⟩
      · try rw [if_neg h3] at k
        unfold wc_X7_riseRight_74
        refine fw_X7_rise ⟨_, rfl, ?_⟩
        exact k
      · try rw [if_pos h3] at k
        unfold wc_X7_riseRight_74
        refine fw_X7_rise ⟨_, rfl, ?_⟩
        exact k
    · try rw [if_neg h2] at k
      refine fw_X1_bit ⟨_, rfl, ?_⟩
      refine ⟨fun h4 => ?_, fun h4 => ?_⟩
      · try rw [if_pos h4] at k
        unfold wc_X7_riseRight_55
        unfold wc_X7_riseRight_56
        refine ⟨fun h5 => ?_, fun h5 => ?_⟩
        · try rw [if_neg h5] at k
          unfold wc_X7_riseRight_74
          refine fw_X7_rise ⟨_, rfl, ?_⟩
          exact k
        · try rw [if_pos h5] at k
          unfold wc_X7_riseRight_74
          refine fw_X7_rise ⟨_, rfl, ?_⟩
          exact k
      · try rw [if_neg h4] at k
        unfold wc_X7_riseRight_56
        refine ⟨fun h6 => ?_, fun h6 => ?_⟩
        · try rw [if_neg h6] at k
          unfold wc_X7_riseRight_74
          refine fw_X7_rise ⟨_, rfl, ?_⟩
          exact k
        · try rw [if_pos h6] at k
          unfold wc_X7_riseRight_74
          refine fw_X7_rise ⟨_, rfl, ?_⟩
          exact k
  · try rw [if_pos h1] at k
    refine fw_X1_holds ⟨_, rfl, ?_⟩
    refine ⟨fun h7 => ?_, fun h7 => ?_⟩
    · try rw [if_neg h7] at k
      unfold wc_X7_riseRight_30
      refine ⟨fun h8 => ?_, fun h8 => ?_⟩
      · try rw [if_pos h8] at k
        unfold wc_X7_riseRight_55
        unfold wc_X7_riseRight_56
        refine ⟨fun h9 => ?_, fun h9 => ?_⟩
        · try rw [if_neg h9] at k
          unfold wc_X7_riseRight_74
          refine fw_X7_rise ⟨_, rfl, ?_⟩
          exact k
        · try rw [if_pos h9] at k
          unfold wc_X7_riseRight_74
          refine fw_X7_rise ⟨_, rfl, ?_⟩
          exact k
      · try rw [if_neg h8] at k
        refine fw_X1_bit ⟨_, rfl, ?_⟩
        refine ⟨fun h10 => ?_, fun h10 => ?_⟩
        · try rw [if_pos h10] at k
          unfold wc_X7_riseRight_55
          unfold wc_X7_riseRight_56
          refine ⟨fun h11 => ?_, fun h11 => ?_⟩
          · try rw [if_neg h11] at k
            unfold wc_X7_riseRight_74
            refine fw_X7_rise ⟨_, rfl, ?_⟩
            exact k
          · try rw [if_pos h11] at k
            unfold wc_X7_riseRight_74
            refine fw_X7_rise ⟨_, rfl, ?_⟩
            exact k
        · try rw [if_neg h10] at k
          unfold wc_X7_riseRight_56
          refine ⟨fun h12 => ?_, fun h12 => ?_⟩
          · try rw [if_neg h12] at k
            unfold wc_X7_riseRight_74
            refine fw_X7_rise ⟨_, rfl, ?_⟩
            exact k
          · try rw [if_pos h12] at k
            unfold wc_X7_riseRight_74
            refine fw_X7_rise ⟨_, rfl, ?_⟩
            exact k
    · try rw [if_pos h7] at k
      exact k
def fx_X7_reach (a1 : Int32) (a2 : Int32) (a3 : Int32) (a4 : Int32) (z : tq_S) : Int32 := (if a3 = 0 then a4 else (if ((a1 + a2)) < 0 then a4 else (if (81 : Int32) ≤ ((a1 + a2)) then a4 else (if (tq_ai z 14 (Int32.toNatClampNeg ((a1 + a2)))) = (-9999 : Int32) then (if a4 < (81 : Int32) then (a4 + (1 : Int32)) else a4) else a4))))
def fz_X7_reach (a1 : Int32) (a2 : Int32) (a3 : Int32) (a4 : Int32) (z : tq_S) : tq_S := (if a3 = 0 then z else (if ((a1 + a2)) < 0 then z else (if (81 : Int32) ≤ ((a1 + a2)) then z else (if (tq_ai z 14 (Int32.toNatClampNeg ((a1 + a2)))) = (-9999 : Int32) then (if a4 < (81 : Int32) then (tq_sai (tq_sai z 14 (upd (tq_ai z 14) (Int32.toNatClampNeg ((a1 + a2))) ((tq_ai z 14 (Int32.toNatClampNeg a1)) + a3))) 15 (upd (tq_ai (tq_sai z 14 (upd (tq_ai z 14) (Int32.toNatClampNeg ((a1 + a2))) ((tq_ai z 14 (Int32.toNatClampNeg a1)) + a3))) 15) (Int32.toNatClampNeg a4) ((a1 + a2)))) else z) else z))))
def fg_X7_reach (a1 : Int32) (a2 : Int32) (a3 : Int32) (a4 : Int32) (z : tq_S) : Prop := (if a3 = 0 then True else (if ((a1 + a2)) < 0 then True else (if (81 : Int32) ≤ ((a1 + a2)) then True else (vp_in ((a1 + a2)) 81 ∧ (if (tq_ai z 14 (Int32.toNatClampNeg ((a1 + a2)))) = (-9999 : Int32) then (if a4 < (81 : Int32) then (vp_in a1 81 ∧ (vp_in ((a1 + a2)) 81 ∧ (vp_in a4 81))) else True) else True)))))
theorem fw_X7_reach {Q : tq_O → tq_S → Prop} {a1 : Int32} {a2 : Int32} {a3 : Int32} {a4 : Int32} {z : tq_S} (g : fg_X7_reach a1 a2 a3 a4 z) (k : Q (.inl (some (.int (fx_X7_reach a1 a2 a3 a4 z)))) (fz_X7_reach a1 a2 a3 a4 z)) : wm_X7_reach a1 a2 a3 a4 z Q := by
  unfold wm_X7_reach
  unfold fg_X7_reach at g
  unfold fx_X7_reach fz_X7_reach at k
  intro v1_ e_
  subst e_
  refine ⟨fun h1 => ?_, fun h1 => ?_⟩
  · try rw [if_pos h1] at k
    try rw [if_pos h1] at k
    try rw [if_pos h1] at g
    clear g
    exact k
  · try rw [if_neg h1] at k
    try rw [if_neg h1] at k
    try rw [if_neg h1] at g
    refine ⟨fun h2 => ?_, fun h2 => ?_⟩
    · try rw [if_pos h2] at k
      try rw [if_pos h2] at k
      try rw [if_pos h2] at g
      clear g
      exact k
    · try rw [if_neg h2] at k
      try rw [if_neg h2] at k
      try rw [if_neg h2] at g
      refine ⟨fun h3 => ?_, fun h3 => ?_⟩
      · try rw [if_pos h3] at k
        try rw [if_pos h3] at k
        try rw [if_pos h3] at g
        clear g
        exact k
      · try rw [if_neg h3] at k
        try rw [if_neg h3] at k
        try rw [if_neg h3] at g
        refine ⟨g.1, ?_⟩
        replace g := g.2
        refine ⟨fun h4 => ?_, fun h4 => ?_⟩
        · try rw [if_neg h4] at k
          try rw [if_neg h4] at k
          try rw [if_neg h4] at g
          clear g
          exact k
        · try rw [if_pos h4] at k
          try rw [if_pos h4] at k
          try rw [if_pos h4] at g
          refine ⟨fun h5 => ?_, fun h5 => ?_⟩
          · try rw [if_pos h5] at k
            try rw [if_pos h5] at k
            try rw [if_pos h5] at g
            refine ⟨g.1, ?_⟩
            replace g := g.2
            refine ⟨g.1, ?_⟩
            replace g := g.2
            intro z2_ e_
            subst e_
            refine ⟨g, ?_⟩
            intro z3_ e_
            subst e_
            exact k
          · try rw [if_neg h5] at k
            try rw [if_neg h5] at k
            try rw [if_neg h5] at g
            clear g
            exact k
def fx_X7_riseDown (a1 : Int32) (a2 : Int32) (z : tq_S) : Int32 := (if (fx_X1_holds (a1 - (1 : Int32)) a2 z) = 0 then (if (fx_X1_holds a1 a2 z) = 0 then (0 : Int32) else (if (fx_X1_holds (a1 - (1 : Int32)) a2 z) = 0 then (if ((a1 + a2) - (a1 + a2) / (2 : Int32) * (2 : Int32)) = 0 then (fx_X7_rise (1 : Int32) (0 : Int32) z) else (fx_X7_rise (0 : Int32) (0 : Int32) z)) else (if ((tq_fl z 772) &&& (fx_X1_bit (a1 - (1 : Int32)) a2 z)) = (0 : Int64) then (if ((a1 + a2) - (a1 + a2) / (2 : Int32) * (2 : Int32)) = 0 then (fx_X7_rise (1 : Int32) (0 : Int32) z) else (fx_X7_rise (0 : Int32) (0 : Int32) z)) else (if ((a1 + a2) - (a1 + a2) / (2 : Int32) * (2 : Int32)) = 0 then (fx_X7_rise (1 : Int32) (1 : Int32) z) else (fx_X7_rise (0 : Int32) (1 : Int32) z))))) else (if (fx_X1_holds (a1 - (1 : Int32)) a2 z) = 0 then (if ((a1 + a2) - (a1 + a2) / (2 : Int32) * (2 : Int32)) = 0 then (fx_X7_rise (1 : Int32) (0 : Int32) z) else (fx_X7_rise (0 : Int32) (0 : Int32) z)) else (if ((tq_fl z 772) &&& (fx_X1_bit (a1 - (1 : Int32)) a2 z)) = (0 : Int64) then (if ((a1 + a2) - (a1 + a2) / (2 : Int32) * (2 : Int32)) = 0 then (fx_X7_rise (1 : Int32) (0 : Int32) z) else (fx_X7_rise (0 : Int32) (0 : Int32) z)) else (if ((a1 + a2) - (a1 + a2) / (2 : Int32) * (2 : Int32)) = 0 then (fx_X7_rise (1 : Int32) (1 : Int32) z) else (fx_X7_rise (0 : Int32) (1 : Int32) z)))))
theorem fw_X7_riseDown {Q : tq_O → tq_S → Prop} {a1 : Int32} {a2 : Int32} {z : tq_S} (k : Q (.inl (some (.int (fx_X7_riseDown a1 a2 z)))) z) : wm_X7_riseDown a1 a2 z Q := by
  unfold wm_X7_riseDown
  unfold fx_X7_riseDown at k
  refine fw_X1_holds ⟨_, rfl, ?_⟩
  refine ⟨fun h1 => ?_, fun h1 => ?_⟩
  · try rw [if_neg h1] at k
    unfold wc_X7_riseDown_30
    refine ⟨fun h2 => ?_, fun h2 => ?_⟩
    · try rw [if_pos h2] at k
      unfold wc_X7_riseDown_55
      unfold wc_X7_riseDown_56
      refine ⟨fun h3 => ?_, fun h3 => ?_⟩
      · try rw [if_neg h3] at k
        unfold wc_X7_riseDown_72
        refine fw_X7_rise ⟨_, rfl, ?_⟩
        exact k
      · try rw [if_pos h3] at k
        unfold wc_X7_riseDown_72
        refine fw_X7_rise ⟨_, rfl, ?_⟩
        exact k
    · try rw [if_neg h2] at k
      refine fw_X1_bit ⟨_, rfl, ?_⟩
      refine ⟨fun h4 => ?_, fun h4 => ?_⟩
      · try rw [if_pos h4] at k
        unfold wc_X7_riseDown_55
        unfold wc_X7_riseDown_56
        refine ⟨fun h5 => ?_, fun h5 => ?_⟩
        · try rw [if_neg h5] at k
          unfold wc_X7_riseDown_72
          refine fw_X7_rise ⟨_, rfl, ?_⟩
          exact k
        · try rw [if_pos h5] at k
          unfold wc_X7_riseDown_72
          refine fw_X7_rise ⟨_, rfl, ?_⟩
          exact k
      · try rw [if_neg h4] at k
        unfold wc_X7_riseDown_56
        refine ⟨fun h6 => ?_, fun h6 => ?_⟩
        · try rw [if_neg h6] at k
          unfold wc_X7_riseDown_72
          refine fw_X7_rise ⟨_, rfl, ?_⟩
          exact k
        · try rw [if_pos h6] at k
          unfold wc_X7_riseDown_72
          refine fw_X7_rise ⟨_, rfl, ?_⟩
          exact k
  · try rw [if_pos h1] at k
    refine fw_X1_holds ⟨_, rfl, ?_⟩
    refine ⟨fun h7 => ?_, fun h7 => ?_⟩
    · try rw [if_neg h7] at k
      unfold wc_X7_riseDown_30
      refine ⟨fun h8 => ?_, fun h8 => ?_⟩
      · try rw [if_pos h8] at k
        unfold wc_X7_riseDown_55
        unfold wc_X7_riseDown_56
        refine ⟨fun h9 => ?_, fun h9 => ?_⟩
        · try rw [if_neg h9] at k
          unfold wc_X7_riseDown_72
          refine fw_X7_rise ⟨_, rfl, ?_⟩
          exact k
        · try rw [if_pos h9] at k
          unfold wc_X7_riseDown_72
          refine fw_X7_rise ⟨_, rfl, ?_⟩
          exact k
      · try rw [if_neg h8] at k
        refine fw_X1_bit ⟨_, rfl, ?_⟩
        refine ⟨fun h10 => ?_, fun h10 => ?_⟩
        · try rw [if_pos h10] at k
          unfold wc_X7_riseDown_55
          unfold wc_X7_riseDown_56
          refine ⟨fun h11 => ?_, fun h11 => ?_⟩
          · try rw [if_neg h11] at k
            unfold wc_X7_riseDown_72
            refine fw_X7_rise ⟨_, rfl, ?_⟩
            exact k
          · try rw [if_pos h11] at k
            unfold wc_X7_riseDown_72
            refine fw_X7_rise ⟨_, rfl, ?_⟩
            exact k
        · try rw [if_neg h10] at k
          unfold wc_X7_riseDown_56
          refine ⟨fun h12 => ?_, fun h12 => ?_⟩
          · try rw [if_neg h12] at k
            unfold wc_X7_riseDown_72
            refine fw_X7_rise ⟨_, rfl, ?_⟩
            exact k
          · try rw [if_pos h12] at k
            unfold wc_X7_riseDown_72
            refine fw_X7_rise ⟨_, rfl, ?_⟩
            exact k
    · try rw [if_pos h7] at k
      exact k
def fx_X7_reach_r1 (a1 : Int32) (a2 : Int32) (a3 : Int32) (a4 : Int32) (z : tq_S) : Int32 := (if a3 = 0 then a4 else (if ((a1 + a2)) < 0 then a4 else (if (81 : Int32) ≤ ((a1 + a2)) then a4 else (if (tq_ai z 13 (Int32.toNatClampNeg ((a1 + a2)))) = (-9999 : Int32) then (if a4 < (81 : Int32) then (a4 + (1 : Int32)) else a4) else a4))))
def fz_X7_reach_r1 (a1 : Int32) (a2 : Int32) (a3 : Int32) (a4 : Int32) (z : tq_S) : tq_S := (if a3 = 0 then z else (if ((a1 + a2)) < 0 then z else (if (81 : Int32) ≤ ((a1 + a2)) then z else (if (tq_ai z 13 (Int32.toNatClampNeg ((a1 + a2)))) = (-9999 : Int32) then (if a4 < (81 : Int32) then (tq_sai (tq_sai z 13 (upd (tq_ai z 13) (Int32.toNatClampNeg ((a1 + a2))) ((tq_ai z 13 (Int32.toNatClampNeg a1)) + a3))) 15 (upd (tq_ai (tq_sai z 13 (upd (tq_ai z 13) (Int32.toNatClampNeg ((a1 + a2))) ((tq_ai z 13 (Int32.toNatClampNeg a1)) + a3))) 15) (Int32.toNatClampNeg a4) ((a1 + a2)))) else z) else z))))
def fg_X7_reach_r1 (a1 : Int32) (a2 : Int32) (a3 : Int32) (a4 : Int32) (z : tq_S) : Prop := (if a3 = 0 then True else (if ((a1 + a2)) < 0 then True else (if (81 : Int32) ≤ ((a1 + a2)) then True else (vp_in ((a1 + a2)) 81 ∧ (if (tq_ai z 13 (Int32.toNatClampNeg ((a1 + a2)))) = (-9999 : Int32) then (if a4 < (81 : Int32) then (vp_in a1 81 ∧ (vp_in ((a1 + a2)) 81 ∧ (vp_in a4 81))) else True) else True)))))
theorem fw_X7_reach_r1 {Q : tq_O → tq_S → Prop} {a1 : Int32} {a2 : Int32} {a3 : Int32} {a4 : Int32} {z : tq_S} (g : fg_X7_reach_r1 a1 a2 a3 a4 z) (k : Q (.inl (some (.int (fx_X7_reach_r1 a1 a2 a3 a4 z)))) (fz_X7_reach_r1 a1 a2 a3 a4 z)) : wm_X7_reach_r1 a1 a2 a3 a4 z Q := by
  unfold wm_X7_reach_r1
  unfold fg_X7_reach_r1 at g
  unfold fx_X7_reach_r1 fz_X7_reach_r1 at k
  intro v1_ e_
  subst e_
  refine ⟨fun h1 => ?_, fun h1 => ?_⟩
  · try rw [if_pos h1] at k
    try rw [if_pos h1] at k
    try rw [if_pos h1] at g
    clear g
    exact k
  · try rw [if_neg h1] at k
    try rw [if_neg h1] at k
    try rw [if_neg h1] at g
    refine ⟨fun h2 => ?_, fun h2 => ?_⟩
    · try rw [if_pos h2] at k
      try rw [if_pos h2] at k
      try rw [if_pos h2] at g
      clear g
      exact k
    · try rw [if_neg h2] at k
      try rw [if_neg h2] at k
      try rw [if_neg h2] at g
      refine ⟨fun h3 => ?_, fun h3 => ?_⟩
      · try rw [if_pos h3] at k
        try rw [if_pos h3] at k
        try rw [if_pos h3] at g
        clear g
        exact k
      · try rw [if_neg h3] at k
        try rw [if_neg h3] at k
        try rw [if_neg h3] at g
        refine ⟨g.1, ?_⟩
        replace g := g.2
        refine ⟨fun h4 => ?_, fun h4 => ?_⟩
        · try rw [if_neg h4] at k
          try rw [if_neg h4] at k
          try rw [if_neg h4] at g
          clear g
          exact k
        · try rw [if_pos h4] at k
          try rw [if_pos h4] at k
          try rw [if_pos h4] at g
          refine ⟨fun h5 => ?_, fun h5 => ?_⟩
          · try rw [if_pos h5] at k
            try rw [if_pos h5] at k
            try rw [if_pos h5] at g
            refine ⟨g.1, ?_⟩
            replace g := g.2
            refine ⟨g.1, ?_⟩
            replace g := g.2
            intro z2_ e_
            subst e_
            refine ⟨g, ?_⟩
            intro z3_ e_
            subst e_
            exact k
          · try rw [if_neg h5] at k
            try rw [if_neg h5] at k
            try rw [if_neg h5] at g
            clear g
            exact k
def fx_J9_abs_0f7a4 (a0 : Int32) (z : tq_S) : Int32 := (if 0 ≤ a0 then a0 else (-a0))
theorem fw_J9_abs_0f7a4 {Q : tq_O → tq_S → Prop} {a0 : Int32} {z : tq_S} (k : Q (.inl (some (.int (fx_J9_abs_0f7a4 a0 z)))) z) : wm_J9_abs_0f7a4 a0 z Q := by
  unfold wm_J9_abs_0f7a4
  unfold fx_J9_abs_0f7a4 at k
  refine ⟨fun h1 => ?_, fun h1 => ?_⟩
  · try rw [if_pos h1] at k
    exact k
  · try rw [if_neg h1] at k
    exact k
def fx_X8_bit (a0 : Int32) (a1 : Int32) (z : tq_S) : Int64 := ((1 : Int64) <<< ((Int32.toInt64 (((6 : Int32) * a1) + a0)) &&& 63))
theorem fw_X8_bit {Q : tq_O → tq_S → Prop} {a0 : Int32} {a1 : Int32} {z : tq_S} (k : Q (.inl (some (.long (fx_X8_bit a0 a1 z)))) z) : wm_X8_bit a0 a1 z Q := by
  unfold wm_X8_bit
  unfold fx_X8_bit at k
  exact k
def fz_X8_dropAll  (z : tq_S) : tq_S := (tq_sfi (tq_sfi (tq_sfl z 1476 (0 : Int64)) 1477 (0 : Int32)) 1478 ((tq_fi (tq_sfi (tq_sfl z 1476 (0 : Int64)) 1477 (0 : Int32)) 1478) + (1 : Int32)))
theorem fw_X8_dropAll {Q : tq_O → tq_S → Prop}  {z : tq_S} (k : Q (.inl none) (fz_X8_dropAll  z)) : wm_X8_dropAll  z Q := by
  unfold wm_X8_dropAll
  unfold fz_X8_dropAll at k
  intro z1_ e_
  subst e_
  intro z2_ e_
  subst e_
  intro z3_ e_
  subst e_
  exact k
def fx_X11_clear  (z : tq_S) : Int32 := ((tq_fi z 1477))
def fz_X11_clear  (z : tq_S) : tq_S := (fz_X8_dropAll z)
theorem fw_X11_clear {Q : tq_O → tq_S → Prop}  {z : tq_S} (k : Q (.inl (some (.int (fx_X11_clear  z)))) (fz_X11_clear  z)) : wm_X11_clear  z Q := by
  unfold wm_X11_clear
  unfold fx_X11_clear fz_X11_clear at k
  intro v1_ e_
  subst e_
  refine fw_X8_dropAll ⟨rfl, ?_⟩
  exact k
def fx_J9_floorMod_7cf53 (a0 : Int32) (a1 : Int32) (z : tq_S) : Int32 := (if 0 ≤ (a0 ^^^ a1) then ((a0 - a0 / a1 * a1)) else (if ((a0 - a0 / a1 * a1)) = 0 then ((a0 - a0 / a1 * a1)) else (((a0 - a0 / a1 * a1)) + a1)))
def fg_J9_floorMod_7cf53 (a0 : Int32) (a1 : Int32) (z : tq_S) : Prop := ((¬ a1 = 0))
theorem fw_J9_floorMod_7cf53 {Q : tq_O → tq_S → Prop} {a0 : Int32} {a1 : Int32} {z : tq_S} (g : fg_J9_floorMod_7cf53 a0 a1 z) (k : Q (.inl (some (.int (fx_J9_floorMod_7cf53 a0 a1 z)))) z) : wm_J9_floorMod_7cf53 a0 a1 z Q := by
  unfold wm_J9_floorMod_7cf53
  unfold fg_J9_floorMod_7cf53 at g
  unfold fx_J9_floorMod_7cf53 at k
  refine ⟨g, ?_⟩
  intro v1_ e_
  subst e_
  refine ⟨fun h1 => ?_, fun h1 => ?_⟩
  · try rw [if_pos h1] at k
    exact k
  · try rw [if_neg h1] at k
    refine ⟨fun h2 => ?_, fun h2 => ?_⟩
    · try rw [if_pos h2] at k
      exact k
    · try rw [if_neg h2] at k
      exact k
def fx_X4_isAhead (a0 : Int64) (a2 : Int64) (z : tq_S) : Int32 := (if ((a0 &&& (((a0 ^^^ a2) &&& (16777215 : Int64)))) &&& (-(((a0 ^^^ a2) &&& (16777215 : Int64))))) = (0 : Int64) then (0 : Int32) else (1 : Int32))
theorem fw_X4_isAhead {Q : tq_O → tq_S → Prop} {a0 : Int64} {a2 : Int64} {z : tq_S} (k : Q (.inl (some (.int (fx_X4_isAhead a0 a2 z)))) z) : wm_X4_isAhead a0 a2 z Q := by
  unfold wm_X4_isAhead
  unfold fx_X4_isAhead at k
  intro v1_ e_
  subst e_
  refine ⟨fun h1 => ?_, fun h1 => ?_⟩
  · try rw [if_pos h1] at k
    exact k
  · try rw [if_neg h1] at k
    exact k
def fx_J9_max_f86c9 (a0 : Int64) (a2 : Int64) (z : tq_S) : Int64 := (if a0 < a2 then a2 else a0)
theorem fw_J9_max_f86c9 {Q : tq_O → tq_S → Prop} {a0 : Int64} {a2 : Int64} {z : tq_S} (k : Q (.inl (some (.long (fx_J9_max_f86c9 a0 a2 z)))) z) : wm_J9_max_f86c9 a0 a2 z Q := by
  unfold wm_J9_max_f86c9
  unfold fx_J9_max_f86c9 at k
  refine ⟨fun h1 => ?_, fun h1 => ?_⟩
  · try rw [if_pos h1] at k
    exact k
  · try rw [if_neg h1] at k
    exact k
def fx_X6_orderOf (a0 : Int32) (z : tq_S) : Int32 := ((tq_ends.getD (Int32.toNatClampNeg a0) 0) - (tq_ends.getD (Int32.toNatClampNeg (a0 - (1 : Int32))) 0))
def fg_X6_orderOf (a0 : Int32) (z : tq_S) : Prop := (vp_in a0 tq_ends.length ∧ (vp_in (a0 - (1 : Int32)) tq_ends.length))
theorem fw_X6_orderOf {Q : tq_O → tq_S → Prop} {a0 : Int32} {z : tq_S} (g : fg_X6_orderOf a0 z) (k : Q (.inl (some (.int (fx_X6_orderOf a0 z)))) z) : wm_X6_orderOf a0 z Q := by
  unfold wm_X6_orderOf
  unfold fg_X6_orderOf at g
  unfold fx_X6_orderOf at k
  refine ⟨g.1, ?_⟩
  replace g := g.2
  refine ⟨g, ?_⟩
  exact k
def fx_X6_factor (a0 : Int32) (a1 : Int32) (z : tq_S) : Int32 := (tq_facs.getD (Int32.toNatClampNeg (((tq_ends.getD (Int32.toNatClampNeg (a0 - (1 : Int32))) 0) + a1) - (1 : Int32))) 0)
def fg_X6_factor (a0 : Int32) (a1 : Int32) (z : tq_S) : Prop := (vp_in (a0 - (1 : Int32)) tq_ends.length ∧ (vp_in (((tq_ends.getD (Int32.toNatClampNeg (a0 - (1 : Int32))) 0) + a1) - (1 : Int32)) tq_facs.length))
theorem fw_X6_factor {Q : tq_O → tq_S → Prop} {a0 : Int32} {a1 : Int32} {z : tq_S} (g : fg_X6_factor a0 a1 z) (k : Q (.inl (some (.int (fx_X6_factor a0 a1 z)))) z) : wm_X6_factor a0 a1 z Q := by
  unfold wm_X6_factor
  unfold fg_X6_factor at g
  unfold fx_X6_factor at k
  refine ⟨g.1, ?_⟩
  replace g := g.2
  refine ⟨g, ?_⟩
  exact k
def fx_J9_floorDiv_f86c9 (a0 : Int64) (a2 : Int64) (z : tq_S) : Int64 := (if (0 : Int64) ≤ (a0 ^^^ a2) then ((a0 / a2)) else (if (((a0 / a2)) * a2) = a0 then ((a0 / a2)) else (((a0 / a2)) - (1 : Int64))))
def fg_J9_floorDiv_f86c9 (a0 : Int64) (a2 : Int64) (z : tq_S) : Prop := ((¬ a2 = 0))
theorem fw_J9_floorDiv_f86c9 {Q : tq_O → tq_S → Prop} {a0 : Int64} {a2 : Int64} {z : tq_S} (g : fg_J9_floorDiv_f86c9 a0 a2 z) (k : Q (.inl (some (.long (fx_J9_floorDiv_f86c9 a0 a2 z)))) z) : wm_J9_floorDiv_f86c9 a0 a2 z Q := by
  unfold wm_J9_floorDiv_f86c9
  unfold fg_J9_floorDiv_f86c9 at g
  unfold fx_J9_floorDiv_f86c9 at k
  refine ⟨g, ?_⟩
  intro v1_ e_
  subst e_
  refine ⟨fun h1 => ?_, fun h1 => ?_⟩
  · try rw [if_pos h1] at k
    exact k
  · try rw [if_neg h1] at k
    refine ⟨fun h2 => ?_, fun h2 => ?_⟩
    · try rw [if_pos h2] at k
      exact k
    · try rw [if_neg h2] at k
      exact k
def fx_X11_areSides (a0 : Int32) (a1 : Int32) (a2 : Int32) (z : tq_S) : Int32 := (if (fx_X11_isFrom (1 : Int32) a0 (8 : Int32) z) = 0 then (0 : Int32) else (if (fx_X11_isFrom (1 : Int32) a1 (8 : Int32) z) = 0 then (0 : Int32) else (if (fx_X11_isFrom (1 : Int32) a2 (8 : Int32) z) = 0 then (0 : Int32) else (1 : Int32))))
theorem fw_X11_areSides {Q : tq_O → tq_S → Prop} {a0 : Int32} {a1 : Int32} {a2 : Int32} {z : tq_S} (k : Q (.inl (some (.int (fx_X11_areSides a0 a1 a2 z)))) z) : wm_X11_areSides a0 a1 a2 z Q := by
  unfold wm_X11_areSides
  unfold fx_X11_areSides at k
  refine fw_X11_isFrom ⟨_, rfl, ?_⟩
  refine ⟨fun h1 => ?_, fun h1 => ?_⟩
  · try rw [if_pos h1] at k
    exact k
  · try rw [if_neg h1] at k
    refine fw_X11_isFrom ⟨_, rfl, ?_⟩
    refine ⟨fun h2 => ?_, fun h2 => ?_⟩
    · try rw [if_pos h2] at k
      exact k
    · try rw [if_neg h2] at k
      refine fw_X11_isFrom ⟨_, rfl, ?_⟩
      refine ⟨fun h3 => ?_, fun h3 => ?_⟩
      · try rw [if_pos h3] at k
        exact k
      · try rw [if_neg h3] at k
        exact k
def fx_J6_bitCount_0f7a4 (a0 : Int32) (z : tq_S) : Int32 := (((((((((((((a0 - (((Int32.toUInt32 a0) >>> ((Int32.toUInt32 (1 : Int32)) &&& Int32.toUInt32 31)).toInt32 &&& (1431655765 : Int32)))) &&& (858993459 : Int32)) + (((Int32.toUInt32 ((a0 - (((Int32.toUInt32 a0) >>> ((Int32.toUInt32 (1 : Int32)) &&& Int32.toUInt32 31)).toInt32 &&& (1431655765 : Int32))))) >>> ((Int32.toUInt32 (2 : Int32)) &&& Int32.toUInt32 31)).toInt32 &&& (858993459 : Int32)))) + ((Int32.toUInt32 (((((a0 - (((Int32.toUInt32 a0) >>> ((Int32.toUInt32 (1 : Int32)) &&& Int32.toUInt32 31)).toInt32 &&& (1431655765 : Int32)))) &&& (858993459 : Int32)) + (((Int32.toUInt32 ((a0 - (((Int32.toUInt32 a0) >>> ((Int32.toUInt32 (1 : Int32)) &&& Int32.toUInt32 31)).toInt32 &&& (1431655765 : Int32))))) >>> ((Int32.toUInt32 (2 : Int32)) &&& Int32.toUInt32 31)).toInt32 &&& (858993459 : Int32))))) >>> ((Int32.toUInt32 (4 : Int32)) &&& Int32.toUInt32 31)).toInt32) &&& (252645135 : Int32))) + ((Int32.toUInt32 ((((((((a0 - (((Int32.toUInt32 a0) >>> ((Int32.toUInt32 (1 : Int32)) &&& Int32.toUInt32 31)).toInt32 &&& (1431655765 : Int32)))) &&& (858993459 : Int32)) + (((Int32.toUInt32 ((a0 - (((Int32.toUInt32 a0) >>> ((Int32.toUInt32 (1 : Int32)) &&& Int32.toUInt32 31)).toInt32 &&& (1431655765 : Int32))))) >>> ((Int32.toUInt32 (2 : Int32)) &&& Int32.toUInt32 31)).toInt32 &&& (858993459 : Int32)))) + ((Int32.toUInt32 (((((a0 - (((Int32.toUInt32 a0) >>> ((Int32.toUInt32 (1 : Int32)) &&& Int32.toUInt32 31)).toInt32 &&& (1431655765 : Int32)))) &&& (858993459 : Int32)) + (((Int32.toUInt32 ((a0 - (((Int32.toUInt32 a0) >>> ((Int32.toUInt32 (1 : Int32)) &&& Int32.toUInt32 31)).toInt32 &&& (1431655765 : Int32))))) >>> ((Int32.toUInt32 (2 : Int32)) &&& Int32.toUInt32 31)).toInt32 &&& (858993459 : Int32))))) >>> ((Int32.toUInt32 (4 : Int32)) &&& Int32.toUInt32 31)).toInt32) &&& (252645135 : Int32)))) >>> ((Int32.toUInt32 (8 : Int32)) &&& Int32.toUInt32 31)).toInt32)) + ((Int32.toUInt32 ((((((((((a0 - (((Int32.toUInt32 a0) >>> ((Int32.toUInt32 (1 : Int32)) &&& Int32.toUInt32 31)).toInt32 &&& (1431655765 : Int32)))) &&& (858993459 : Int32)) + (((Int32.toUInt32 ((a0 - (((Int32.toUInt32 a0) >>> ((Int32.toUInt32 (1 : Int32)) &&& Int32.toUInt32 31)).toInt32 &&& (1431655765 : Int32))))) >>> ((Int32.toUInt32 (2 : Int32)) &&& Int32.toUInt32 31)).toInt32 &&& (858993459 : Int32)))) + ((Int32.toUInt32 (((((a0 - (((Int32.toUInt32 a0) >>> ((Int32.toUInt32 (1 : Int32)) &&& Int32.toUInt32 31)).toInt32 &&& (1431655765 : Int32)))) &&& (858993459 : Int32)) + (((Int32.toUInt32 ((a0 - (((Int32.toUInt32 a0) >>> ((Int32.toUInt32 (1 : Int32)) &&& Int32.toUInt32 31)).toInt32 &&& (1431655765 : Int32))))) >>> ((Int32.toUInt32 (2 : Int32)) &&& Int32.toUInt32 31)).toInt32 &&& (858993459 : Int32))))) >>> ((Int32.toUInt32 (4 : Int32)) &&& Int32.toUInt32 31)).toInt32) &&& (252645135 : Int32))) + ((Int32.toUInt32 ((((((((a0 - (((Int32.toUInt32 a0) >>> ((Int32.toUInt32 (1 : Int32)) &&& Int32.toUInt32 31)).toInt32 &&& (1431655765 : Int32)))) &&& (858993459 : Int32)) + (((Int32.toUInt32 ((a0 - (((Int32.toUInt32 a0) >>> ((Int32.toUInt32 (1 : Int32)) &&& Int32.toUInt32 31)).toInt32 &&& (1431655765 : Int32))))) >>> ((Int32.toUInt32 (2 : Int32)) &&& Int32.toUInt32 31)).toInt32 &&& (858993459 : Int32)))) + ((Int32.toUInt32 (((((a0 - (((Int32.toUInt32 a0) >>> ((Int32.toUInt32 (1 : Int32)) &&& Int32.toUInt32 31)).toInt32 &&& (1431655765 : Int32)))) &&& (858993459 : Int32)) + (((Int32.toUInt32 ((a0 - (((Int32.toUInt32 a0) >>> ((Int32.toUInt32 (1 : Int32)) &&& Int32.toUInt32 31)).toInt32 &&& (1431655765 : Int32))))) >>> ((Int32.toUInt32 (2 : Int32)) &&& Int32.toUInt32 31)).toInt32 &&& (858993459 : Int32))))) >>> ((Int32.toUInt32 (4 : Int32)) &&& Int32.toUInt32 31)).toInt32) &&& (252645135 : Int32)))) >>> ((Int32.toUInt32 (8 : Int32)) &&& Int32.toUInt32 31)).toInt32))) >>> ((Int32.toUInt32 (16 : Int32)) &&& Int32.toUInt32 31)).toInt32)) &&& (63 : Int32))
theorem fw_J6_bitCount_0f7a4 {Q : tq_O → tq_S → Prop} {a0 : Int32} {z : tq_S} (k : Q (.inl (some (.int (fx_J6_bitCount_0f7a4 a0 z)))) z) : wm_J6_bitCount_0f7a4 a0 z Q := by
  unfold wm_J6_bitCount_0f7a4
  unfold fx_J6_bitCount_0f7a4 at k
  intro v1_ e_
  subst e_
  intro v2_ e_
  subst e_
  intro v3_ e_
  subst e_
  intro v4_ e_
  subst e_
  intro v5_ e_
  subst e_
  exact k
