/-! ===== free, role, roles of the reference ===== -/
def roC (F B : Nat → Bool) (c : Nat) : Nat := if F c = true then 102 else if B c = true then 110 else 45
def FRo : List (Nat × Nat) := [(0, 3264), (0, 3288), (2, 61), (2, 66)]
section RROLES
variable {w h : Nat} {r : Bool} {S : Nat → Bool} {m : Nat → Nat} {F B : Nat → Bool} {z : tq_S} {Q : tq_O → tq_S → Prop}
theorem sq_roleOf {c : Nat} (hd : jd w h r S) (hs : rs w r S m F B) (hj : jr w h r S z) (hc : c < 64) (hS : S c = true) (k : ∀ z', fr FMo z z' → Q (.inl (some (.int (nI (roC F B c))))) z') : wm_X12_roleOf (nI c) (nI (sz (fm S m))) z Q := by
  have hw8 := hd.2.1
  have hh8 := hd.2.2.2.1
  have hre := hd.2.2.2.2.2
  have rc_ := hre c hS
  have s64 : sz (fm S m) ≤ 64 := fb_ct_le _ 64
  have hB := hs.2.2.2
  obtain ⟨bp, fS, alF⟩ := rs_B hd hs
  unfold wm_X12_roleOf
  refine sq_most (T := wo S c) hd hj (Or.inr ⟨c, hc, rfl, rfl⟩) (fun z1 k1 f1 m1 l1 => ⟨_, rfl, ?_⟩)
  have e1 := rs_2 hd hs hS m1
  dsimp only
  rw [i_eq (by omega) (by omega), e1]
  refine ⟨fun q => ?_, fun q => ?_⟩
  · have q : F c = false := by simpa using q
    unfold wc_X12_roleOf_14
    refine lp_inv (fun k' s => ∃ z', s = (nI k', z') ∧ fr FMo z z' ∧ ∀ k2, k2 < k' → ∀ o, bs w h r c k2 = some o → S o = true → F o = false) 4 ?_ ⟨z1, rfl, f1, fun k2 hk2 => by omega⟩
    rintro k' s hk' ⟨z2, rfl, f2, n2⟩ B1 hB1
    simp only
    unfold wb_X12_roleOf_14
    rw [i_4, i_le (by omega) (by omega)]
    refine ⟨fun q2 => ?_, fun q2 => ?_⟩
    · have nb_ : B c = false := by
        cases e : B c
        · rfl
        · obtain ⟨-, f, g1, g2⟩ := (hB c).mp e
          have rf := hre f (fS f g1)
          obtain ⟨k2, x1, x2⟩ := (bs_nb hw8 hh8 rc_.2.1 rc_.2.2 rf.2.1 rf.2.2).mpr (nb_s g2)
          rw [n2 k2 (by omega) f x2 (fS f g1)] at g1; cases g1
      have e : roC F B c = 45 := by unfold roC; rw [q, nb_]; rfl
      rw [e] at k
      exact k z2 f2
    · have hB1 := hB1 (by omega)
      have j2 := jr_f f2 (by decide) (by decide) (by decide) (by decide) hj
      have go : ∀ z3, fr FMo z z3 → (∀ o, bs w h r c k' = some o → S o = true → F o = false) → wc_X12_roleOf_56 (fun b3 z => B1 (b3, z)) Q (nI c) (nI (sz (fm S m))) (nI k') z3 := by
        intro z3 f3 n3
        unfold wc_X12_roleOf_56
        intro v ev
        rw [i_1, i_add] at ev
        refine hB1 _ ⟨z3, by rw [ev], f3, fun k2 hk2 o ho oS => ?_⟩
        by_cases q3 : k2 = k'
        · rw [q3] at ho; exact n3 o ho oS
        · exact n2 k2 (by omega) o ho oS
      refine sq_rbes hd j2 rc_.2.1 rc_.2.2 (by omega) ⟨_, rfl, ?_⟩
      cases hbs : bs w h r c k' with
      | none =>
        refine ⟨fun _ => go z2 f2 (fun o ho => by rw [hbs] at ho; cases ho), fun q3 => absurd rfl q3⟩
      | some o =>
        obtain ⟨o64, ox, oy⟩ := bs_in hw8 hh8 rc_.2.1 rc_.2.2 hbs
        have on : nb w r c o = true := (bs_nb hw8 hh8 rc_.2.1 rc_.2.2 ox oy).mp ⟨k', by omega, hbs⟩
        dsimp only [bo]
        rw [i_cl (by omega), j2.2 o o64, bi_0]
        refine ⟨fun q3 => absurd q3 (i_nm (by omega)), fun _ => ⟨i_in (by omega) (by omega), fun q3 => ?_, fun q3 => ?_⟩⟩
        · exact go z2 f2 (fun o' ho' oS => by rw [hbs] at ho'; cases ho'; rw [q3] at oS; cases oS)
        · have oS : S o = true := by simpa using q3
          refine sq_most (T := wo S o) hd j2 (Or.inr ⟨o, o64, rfl, rfl⟩) (fun z3 k3 f3 m3 l3 => ⟨_, rfl, ?_⟩)
          have e3 := rs_2 hd hs oS m3
          dsimp only
          rw [i_eq (by omega) (by omega), e3]
          refine ⟨fun q4 => go z3 (fr_t f2 f3) (fun o' ho' _ => by rw [hbs] at ho'; cases ho'; simpa using q4), fun q4 => ?_⟩
          have e : roC F B c = 110 := by unfold roC; rw [q, (hB c).mpr ⟨hS, o, q4, nb_s on⟩]; rfl
          rw [e] at k
          exact k z3 (fr_t f2 f3)
  · have e : roC F B c = 102 := by unfold roC; rw [q]; rfl
    rw [e] at k
    exact k z1 f1
theorem sq_most0 (hd : jd w h r S) (hs : rs w r S m F B) (hj : jr w h r S z) (k : ∀ z', fr FMo z z' → Q (.inl (some (.int (nI (sz (fm S m)))))) z') : wm_X12_most (-1) z Q := by
  refine sq_most (T := S) hd hj (Or.inl ⟨rfl, rfl⟩) (fun z1 k1 f1 m1 l1 => ?_)
  rw [mm_u m1 (rs_1 hd hs)]
  exact k z1 f1
theorem sr_free (hd : jd w h r S) (hs : rs w r S m F B) (hj : jr w h r S z) (k : ∀ z', fr FRo z z' → tq_fi z' 3264 = 0 → Q (.inl (some (.int (nI (fb_ct (fun x => S x && decide (m x = x)) 64))))) z') : wm_X12_free z Q := by
  have c64 := fb_ct_le S 64
  have al := al_ct hd hs.1
  unfold wm_X12_free
  intro z1 e1
  have f1 : fr FRo z z1 := by rw [e1]; exact fr_sfi (by decide) fr_r
  have t1 : tq_fi z1 3264 = 0 := by rw [e1]; rfl
  have j1 := jr_f f1 (by decide) (by decide) (by decide) (by decide) hj
  refine sq_many j1 ⟨_, rfl, ?_⟩
  refine sq_most0 hd hs j1 (fun z2 f2 => ⟨_, rfl, ?_⟩)
  dsimp only
  rw [i_2, pk_mul, pk_sub (by omega)]
  have e : fb_ct S 64 - 2 * sz (fm S m) = fb_ct (fun x => S x && decide (m x = x)) 64 := by omega
  rw [e]
  exact k z2 (fr_t f1 (fr_m (by decide) f2)) ((fr_fi f2 (by decide)).trans t1)
theorem roC_n {c : Nat} : tq_nf 2 (nI (roC F B c)) := by
  unfold roC
  split
  · exact ⟨rfl, rfl⟩
  · split
    · exact ⟨rfl, rfl⟩
    · exact ⟨rfl, rfl⟩
theorem sr_role {X Y : Int32} (hd : jd w h r S) (hs : rs w r S m F B) (hj : jr w h r S z) (k0 : ho w h S X Y = false → ∀ z', fr [(0, 3264)] z z' → tq_fi z' 3264 = 1 → Q (.inl (some (.int 45))) z') (k1 : ∀ x y, x < w → y < h → X = nI x → Y = nI y → S (8 * y + x) = true → ∀ z', fr FRo z z' → tq_fi z' 3264 = 0 → Q (.inl (some (.int (nI (roC F B (8 * y + x)))))) z') : wm_X12_role X Y z Q := by
  have hd0 := hd
  obtain ⟨hw1, hw8, hh1, hh8, -, hre⟩ := hd
  unfold wm_X12_role
  refine sq_isCell hw1 hw8 hh1 hh8 hj ⟨_, rfl, fun q => ?_, fun q => ?_⟩
  · rw [bi_n] at q
    unfold ho at q
    simp only [Bool.and_eq_true, decide_eq_true_eq] at q
    obtain ⟨⟨⟨⟨q1, q2⟩, q3⟩, q4⟩, q5⟩ := q
    obtain ⟨x, hx⟩ : ∃ x, x = X.toInt.toNat := ⟨_, rfl⟩
    obtain ⟨y, hy⟩ : ∃ y, y = Y.toInt.toNat := ⟨_, rfl⟩
    rw [← hx, ← hy] at q5
    have eX : X = nI x := by rw [nu_eq, i_ti (by omega)]; omega
    have eY : Y = nI y := by rw [nu_eq, i_ti (by omega)]; omega
    have K := k1 x y (by omega) (by omega) eX eY q5
    unfold wc_X12_role_15
    refine sq_isThrown (b := false) (a := 1) (fun z1 f1 e1 => ⟨_, rfl, fun _ => ?_, fun q6 => absurd rfl q6⟩)
    have f1' : fr FRo z z1 := fr_m (by decide) f1
    have j1 := jr_f f1 (by decide) (by decide) (by decide) (by decide) hj
    refine sq_most0 hd0 hs j1 (fun z2 f2 => ⟨_, rfl, ?_⟩)
    have f2' : fr FRo z z2 := fr_t f1' (fr_m (by decide) f2)
    have j2 := jr_f f2' (by decide) (by decide) (by decide) (by decide) hj
    dsimp only
    rw [eX, eY, i_8, pk_mul, i_add]
    refine sq_roleOf hd0 hs j2 (by omega) q5 (fun z3 f3 => ⟨_, rfl, roC_n, K z3 (fr_t f2' (fr_m (by decide) f3)) ?_⟩)
    rw [fr_fi f3 (by decide), fr_fi f2 (by decide)]; exact e1
  · rw [bi_0] at q
    unfold wc_X12_role_15
    exact sq_isThrown (b := true) (a := 1) (fun z1 f1 e1 => ⟨_, rfl, fun q6 => absurd q6 (by decide +kernel), fun _ => k0 q z1 f1 e1⟩)
theorem sr_roles {a : Int32} (hd : jd w h r S) (hs : rs w r S m F B) (hj : jr w h r S z) (k0 : ¬ a = 102 → ¬ a = 110 → ¬ a = 45 → ∀ z', fr [(0, 3264)] z z' → tq_fi z' 3264 = 1 → Q (.inl (some (.int 0))) z') (k1 : ∀ n : Nat, (n = 102 ∨ n = 110 ∨ n = 45) → a = nI n → ∀ z', fr FRo z z' → tq_fi z' 3264 = 0 → Q (.inl (some (.int (nI (fb_ct (fun c => S c && decide (roC F B c = n)) 64))))) z') : wm_X12_roles a z Q := by
  have go : ∀ n : Nat, (n = 102 ∨ n = 110 ∨ n = 45) → a = nI n → wc_X12_roles_23 Q a z := by
    intro n hn e
    have K := k1 n hn e
    subst e
    unfold wc_X12_roles_23 wc_X12_roles_24
    refine sq_isThrown (b := false) (a := 1) (fun z1 f1 e1 => ⟨_, rfl, fun _ => ?_, fun q6 => absurd rfl q6⟩)
    have f1' : fr FRo z z1 := fr_m (by decide) f1
    have j1 := jr_f f1 (by decide) (by decide) (by decide) (by decide) hj
    refine sq_most0 hd hs j1 (fun z2 f2 => ⟨_, rfl, ?_⟩)
    have f2' : fr FRo z z2 := fr_t f1' (fr_m (by decide) f2)
    have e2 : tq_fi z2 3264 = 0 := (fr_fi f2 (by decide)).trans e1
    unfold wc_X12_roles_44
    refine lp_inv (fun c s => ∃ z', s = (nI (fb_ct (fun c => S c && decide (roC F B c = n)) c), nI c, z') ∧ fr FRo z z' ∧ tq_fi z' 3264 = 0) 64 ?_ ⟨z2, rfl, f2', e2⟩
    rintro c s hc ⟨z3, rfl, f3, e3⟩ B1 hB1
    simp only
    have cc := fb_ct_le (fun c => S c && decide (roC F B c = n)) c
    unfold wb_X12_roles_44
    rw [i_64, i_le (by omega) (by omega)]
    refine ⟨fun q => ?_, fun q => ⟨i_in (by omega) (by omega), ?_⟩⟩
    · have : c = 64 := by omega
      subst this
      exact K z3 f3 e3
    · have hB1 := hB1 (by omega)
      have j3 := jr_f f3 (by decide) (by decide) (by decide) (by decide) hj
      have fin : ∀ z4 (b : Bool), fr FRo z z4 → tq_fi z4 3264 = 0 → b = (S c && decide (roC F B c = n)) → wc_X12_roles_78 (fun b3 b4 z => B1 (b3, b4, z)) Q (nI n) (nI (sz (fm S m))) (nI c) (bi b) (nI (fb_ct (fun c => S c && decide (roC F B c = n)) c)) z4 := by
        intro z4 b f4 e4 hb
        unfold wc_X12_roles_78
        intro v ev v2 ev2
        rw [i_1, i_add] at ev2
        refine hB1 _ ⟨z4, ?_, f4, e4⟩
        rw [ev2, ev, fb_ct_succ, ← hb]
        cases b
        · rw [if_neg Bool.false_ne_true]; show (nI _ + nI 0, _, _) = _; rw [i_add]
        · rw [if_pos rfl]; show (nI _ + nI 1, _, _) = _; rw [i_add]
      rw [i_cl (by omega), j3.2 c (by omega), bi_0]
      refine ⟨fun q2 => ?_, fun q2 => ?_⟩
      · unfold wc_X12_roles_77
        exact fin z3 false f3 e3 (by rw [q2]; rfl)
      · have cS : S c = true := by simpa using q2
        refine sq_roleOf hd hs j3 (by omega) cS (fun z4 f4 => ⟨_, rfl, ?_⟩)
        have f4' : fr FRo z z4 := fr_t f3 (fr_m (by decide) f4)
        have e4 : tq_fi z4 3264 = 0 := (fr_fi f4 (by decide)).trans e3
        have r200 : roC F B c < 200 := by unfold roC; split; omega; split <;> omega
        dsimp only
        rw [i_eq (by omega) (by omega)]
        refine ⟨fun q3 => ?_, fun q3 => ?_⟩
        · unfold wc_X12_roles_77
          exact fin z4 false f4' e4 (by rw [cS, decide_eq_false q3]; rfl)
        · exact fin z4 true f4' e4 (by rw [cS, decide_eq_true q3]; rfl)
  unfold wm_X12_roles
  refine ⟨fun q => go 102 (Or.inl rfl) q, fun q => ⟨fun q2 => go 110 (Or.inr (Or.inl rfl)) q2, fun q2 => ⟨fun q3 => go 45 (Or.inr (Or.inr rfl)) q3, fun q3 => ?_⟩⟩⟩
  unfold wc_X12_roles_24
  exact sq_isThrown (b := true) (a := 1) (fun z1 f1 e1 => ⟨_, rfl, fun q6 => absurd q6 (by decide +kernel), fun _ => k0 q q2 q3 z1 f1 e1⟩)
end RROLES
