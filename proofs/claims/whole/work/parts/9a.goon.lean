/-! ===== what a cell does to a row of ends, in the reference ===== -/
section GON
variable {w h : Nat} {r : Bool} {S : Nat → Bool} {z : tq_S} {Q : tq_O → tq_S → Prop}
theorem sq_plug {s k : Nat} (hs : s < 2147483648) (hk : k < 15) (kk : Q (.inl (some (.int (nI (pg s k))))) z) : wm_X12_plug (nI s) (nI k) z Q := by
  unfold wm_X12_plug
  rw [i_2, pk_mul, i_plug hs hk]
  exact kk
theorem sq_with {s k p : Nat} (hk : k < 15) (hp : p < 4) (kk : Q (.inl (some (.int (nI (putE s k p))))) z) : wm_X12_with (nI s) (nI k) (nI p) z Q := by
  unfold wm_X12_with
  rw [i_2, pk_mul, i_with hk hp]
  exact kk
theorem sq_loopOn {I : List Nat → tq_S → Prop} {n x s : Nat} {Y : Int32} {l : Bool} {m : Int64} (hw1 : 1 ≤ w) (hw8 : w ≤ 8) (hh1 : 1 ≤ h) (hh8 : h ≤ 8) (hj : jr w h r S z) (hn : n ≤ 9) (hx : x + 1 < n) (hb : bal n s) (ha : ∀ L t z1 Q', bal n t → I L z1 → (∀ z2, I (L ++ [t]) z2 → Q' (.inl none) z2) → wm_X12_add (nI t) m z1 Q') (h0 : I [] z) (k0 : clo (ho w h S (nI x) Y) l x s = true → Q (.inl none) (tq_sfl z 3319 (tq_fl z 3319 + m))) (k1 : clo (ho w h S (nI x) Y) l x s = false → ∀ z', I (tr (ho w h S (nI x) Y) (ho w h S (nI x + 1) Y) (ho w h S (nI x) (Y + 1)) x s) z' → Q (.inl none) z') : wm_X12_goOn (nI s) (nI x) Y (bi l) m z Q := by
  have hb9 : bal 9 s := bal_up hb hn
  have hs : s < 262144 := bal_lt hb9
  have px := bal_p hb x
  have py := bal_p hb (x + 1)
  have hB : ∀ c rr d t, t ∈ tr c rr d x s → bal n t := fun c rr d t ht => tr_bal hb hx ht
  have nb := non_b hb (x := x) hx hn
  unfold wm_X12_goOn
  refine sq_plug (by omega) (by omega) ⟨_, rfl, ?_⟩
  rw [i_1, i_add]
  refine sq_plug (by omega) (by omega) ⟨_, rfl, ?_⟩
  refine sq_with (p := 0) (by omega) (by omega) ⟨_, rfl, ?_⟩
  refine sq_with (p := 0) (by omega) (by omega) ⟨_, rfl, ?_⟩
  refine sq_isCell hw1 hw8 hh1 hh8 hj ⟨_, rfl, ?_⟩
  refine sq_isCell hw1 hw8 hh1 hh8 hj ⟨_, rfl, ?_⟩
  refine sq_isCell hw1 hw8 hh1 hh8 hj ⟨_, rfl, ?_⟩
  rw [show putE (putE s x 0) (x + 1) 0 = non s x from rfl]
  rw [i_1, i_add] at k1
  generalize ho w h S (nI x) (Y + nI 1) = d at k1 ⊢
  generalize ho w h S (nI (x + 1)) Y = rr at k1 ⊢
  generalize ho w h S (nI x) Y = c at k0 k1 ⊢
  obtain ⟨t0, t1, t2, t3, t4, t5, t6⟩ := tr_cases (c := c) (rr := rr) (d := d) px py
  have hB := hB c rr d
  refine ⟨fun hc1 => ?_, fun hc0 => ?_⟩
  · rw [bi_n] at hc1
    have not0 : ¬ (pg s x = 0 ∧ pg s (x + 1) = 0) → wc_X12_goOn_123 Q (nI s) (nI x) (bi l) m (nI (pg s x)) (nI (pg s (x + 1))) (nI (non s x)) (bi rr) (bi d) z := by
      intro hn0
      unfold wc_X12_goOn_123
      have one : (pg s x = 0 ∨ pg s (x + 1) = 0) → wc_X12_goOn_133 Q (nI x) m (nI (pg s x)) (nI (pg s (x + 1))) (nI (non s x)) (bi rr) (bi d) z := by
        intro h1
        have k1 := k1 (clo_f (by omega))
        rw [t2 hc1 hn0 h1] at k1 hB
        have p4 : pg s x + pg s (x + 1) < 4 := by omega
        have last : ∀ L z1, I L z1 → (∀ z', I (L ++ (if rr = true then [putE (non s x) (x + 1) (pg s x + pg s (x + 1))] else [])) z' → Q (.inl none) z') → wc_X12_goOn_155 Q (nI x) m (nI (pg s x)) (nI (pg s (x + 1))) (nI (non s x)) (bi rr) z1 := by
          intro L z1 hI u
          unfold wc_X12_goOn_155
          rw [i_add, i_1, i_add]
          refine ⟨fun q => ?_, fun q => ?_⟩
          · rw [bi_0] at q
            subst q
            exact u z1 (by rw [if_neg (by simp), List.append_nil]; exact hI)
          · rw [bi_n] at q
            subst q
            refine sq_with (by omega) p4 ⟨_, rfl, ?_⟩
            exact ha L _ z1 _ (hB _ (List.mem_append_right _ (List.mem_singleton.mpr rfl))) hI (fun z2 h2 => ⟨rfl, u z2 h2⟩)
        unfold wc_X12_goOn_133
        rw [i_add]
        refine ⟨fun q => ?_, fun q => ?_⟩
        · rw [bi_0] at q
          subst q
          exact last [] z h0 k1
        · rw [bi_n] at q
          subst q
          refine sq_with (by omega) p4 ⟨_, rfl, ?_⟩
          exact ha [] _ z _ (hB _ (List.mem_append_left _ (List.mem_singleton.mpr rfl))) h0 (fun z2 h2 => ⟨rfl, last _ z2 h2 k1⟩)
      refine ⟨fun q => one (Or.inl (pg_0'.mp q)), fun q => ⟨fun q2 => ?_, fun q2 => one (Or.inr (pg_0'.mp q2))⟩⟩
      rw [pg_0'] at q q2
      have n216 : ¬ (pg s x = 1 ∧ pg s (x + 1) = 1) → wc_X12_goOn_216 Q (nI s) (nI x) (bi l) m (nI (pg s x)) (nI (pg s (x + 1))) (nI (non s x)) z := by
        intro n11
        unfold wc_X12_goOn_216
        have n248 : ¬ (pg s x = 2 ∧ pg s (x + 1) = 2) → wc_X12_goOn_248 Q (bi l) m (nI (pg s x)) (nI (non s x)) z := by
          intro n22
          unfold wc_X12_goOn_248
          refine ⟨fun a => ?_, fun a => ?_⟩
          · have a' : ¬ pg s x = 2 := fun e => a (pg_2.mpr e)
            have ax : pg s x = 1 := by omega
            have ay : pg s (x + 1) = 2 := by omega
            rw [t6 hc1 ax ay] at k1
            have e0 : nI (non s x) = 0 ↔ non s x = 0 := by rw [show (0 : Int32) = nI 0 from rfl, i_eq (by omega) (by omega)]
            rw [e0]
            have ec : clo c l x s = (l && decide (non s x = 0)) := by
              unfold clo
              rw [hc1, decide_eq_true ax, decide_eq_true ay, Bool.true_and, Bool.and_true, Bool.and_true]
            rw [ec] at k0 k1
            refine ⟨fun e => ?_, fun e => ⟨fun q3 => k1 (by rw [decide_eq_false q3, Bool.and_false]) z h0, fun q3 z1 ez => ?_⟩⟩
            · rw [bi_0] at e
              exact k1 (by rw [e]; rfl) z h0
            · rw [bi_n] at e
              rw [ez]
              exact k0 (by rw [e, decide_eq_true q3]; rfl)
          · rw [pg_2] at a
            have ay : pg s (x + 1) = 1 := by omega
            have k1 := k1 (clo_f (by omega))
            rw [t5 hc1 a ay] at k1 hB
            exact ha [] _ z _ (hB _ (List.mem_singleton.mpr rfl)) h0 (fun z2 h2 => ⟨rfl, k1 z2 h2⟩)
        refine ⟨fun a => n248 (fun e => a (pg_2.mpr e.1)), fun a => ⟨fun b => n248 (fun e => b (pg_2.mpr e.2)), fun b => ?_⟩⟩
        rw [pg_2] at a b
        obtain ⟨mm, m1, m3, m4, m5⟩ := mate_l hb a
        have iL : isL s x mm := ⟨m1, m3, m4, m5⟩
        have k1 := k1 (clo_f (by omega))
        rw [t4 hc1 a b, mL_e iL] at k1 hB
        refine sq_otherL (by omega) a iL (by omega) hb.1 ⟨_, rfl, ?_⟩
        refine sq_with (p := 2) (by omega) (by omega) ⟨_, rfl, ?_⟩
        exact ha [] _ z _ (hB _ (List.mem_singleton.mpr rfl)) h0 (fun z2 h2 => ⟨rfl, k1 z2 h2⟩)
      refine ⟨fun a => n216 (fun e => a (pg_1.mpr e.1)), fun a => ⟨fun b => n216 (fun e => b (pg_1.mpr e.2)), fun b => ?_⟩⟩
      rw [pg_1] at a b
      obtain ⟨mm, m1, m2, m3, m4, m5⟩ := mate_r hb b
      have iR : isR s (x + 1) mm := ⟨m1, m3, m4, m5⟩
      have k1 := k1 (clo_f (by omega))
      rw [t3 hc1 a b, mR_e iR] at k1 hB
      rw [i_1, i_add]
      refine sq_otherR (by omega) b iR (by omega) hb.1 ⟨_, rfl, ?_⟩
      refine sq_with (p := 1) (by omega) (by omega) ⟨_, rfl, ?_⟩
      exact ha [] _ z _ (hB _ (List.mem_singleton.mpr rfl)) h0 (fun z2 h2 => ⟨rfl, k1 z2 h2⟩)
    refine ⟨fun q => not0 (fun e => q (pg_0'.mpr e.1)), fun q => ⟨fun q2 => not0 (fun e => q2 (pg_0'.mpr e.2)), fun q2 => ?_⟩⟩
    rw [pg_0'] at q q2
    have k1 := k1 (clo_f (by omega))
    rw [t1 hc1 q q2] at k1 hB
    refine ⟨fun e => ?_, fun e => ⟨fun e2 => ?_, fun e2 => ?_⟩⟩
    · rw [bi_0] at e
      exact k1 z (by rw [if_neg (by rw [e]; simp)]; exact h0)
    · rw [bi_0] at e2
      exact k1 z (by rw [if_neg (by rw [e2]; simp)]; exact h0)
    · rw [bi_n] at e e2
      rw [if_pos ⟨e, e2⟩] at k1 hB
      refine sq_with (p := 1) (by omega) (by omega) ⟨_, rfl, ?_⟩
      refine sq_with (p := 2) (by omega) (by omega) ⟨_, rfl, ?_⟩
      exact ha [] _ z _ (hB _ (List.mem_singleton.mpr rfl)) h0 (fun z2 h2 => ⟨rfl, k1 z2 h2⟩)
  · rw [bi_0] at hc0
    have ec : clo c l x s = false := by unfold clo; rw [hc0]; rfl
    have k1 := k1 ec
    rw [t0 hc0] at k1 hB
    refine ⟨fun q => ?_, fun q => ⟨fun q2 => ?_, fun q2 => ?_⟩⟩
    · exact k1 z (by rw [if_neg (fun e => q (pg_0'.mpr e.1))]; exact h0)
    · exact k1 z (by rw [if_neg (fun e => q2 (pg_0'.mpr e.2))]; exact h0)
    · rw [pg_0'] at q q2
      rw [if_pos ⟨q, q2⟩, non_00 q q2] at k1 hB
      exact ha [] _ z _ (hB _ (List.mem_singleton.mpr rfl)) h0 (fun z2 h2 => ⟨rfl, k1 z2 h2⟩)
end GON
