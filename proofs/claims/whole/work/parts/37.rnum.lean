/-! ===== the reference tells the number of a cover ===== -/
section RNUM2
variable {w h : Nat} {r : Bool} {S T : Nat → Bool} {z : tq_S} {Q : tq_O → tq_S → Prop} {p : Nat → Nat} {i m : Nat}
/-- where the reference stands at a cell -/
def NY (w h : Nat) (r : Bool) (S : Nat → Bool) (p : Nat → Nat) (i n : Nat) (T : Nat → Bool) (z : tq_S) : Prop := cs_ix (tq_ai z 53) = T ∧ bh i T ∧ cv_re w h T ∧ (∀ j, T j = true → S j = true) ∧ pc w r T p ∧ n + rk w r i T p = rk w r 0 S p
def FN : List (Nat × Nat) := [(2, 53), (3, 54), (3, 55)]
def kcode (k : Nat) : Nat := if k = 0 then 101 else if k = 1 then 115 else 119
/-- the sign of a first cell tells its way -/
theorem tc_k (hw : w ≤ 8) (hw1 : 1 ≤ w) (hr : r = true → 4 ≤ w) (hb : bh i T) (hp : pc w r T p) (hi : T i = true) : ∃ k, k < 3 ∧ wt p T i = k + 1 ∧ ch w r i T k = some (p i) ∧ tc w r p i = kcode k := by
  have po := hp i hi
  unfold wt
  rw [if_pos hi]
  rcases pc_first hw hr hb hp hi with ⟨b1, b2⟩ | ⟨b1, b2⟩ | ⟨b1, b2, b3, b4, b5⟩
  · refine ⟨0, by omega, by rw [if_pos b1], ?_, ?_⟩
    · show (if cv_R w i T = true then some (i + 1) else none) = _
      rw [if_pos, b1]
      unfold cv_R; rw [decide_eq_true b2, ← b1, po.1]; rfl
    · exact (tc_R (w := w) (r := r) hr b2 b1 (by rw [← b1]; exact po.2.1)).1
  · refine ⟨1, by omega, by rw [if_neg b2, if_pos b1], ?_, ?_⟩
    · show (if T (i + 8) = true then some (i + 8) else none) = _
      rw [if_pos, b1]
      rw [← b1]; exact po.1
    · exact (tc_D (w := w) (r := r) hw hw1 b1 (by rw [← b1]; exact po.2.1)).1
  · refine ⟨2, by omega, by rw [if_neg b4, if_neg b5], ?_, ?_⟩
    · show (if cv_O w r i T = true then some (i + (w - 1)) else none) = _
      rw [if_pos, b1]
      unfold cv_O; rw [b2, decide_eq_true b3, ← b1, po.1]; rfl
    · exact (tc_O (w := w) (r := r) hw hr b2 b3 b1 (by rw [← b1]; exact po.2.1)).1
theorem sq_ncell {a3 : Int32} {x : Nat} {B8 B19 : Int64 → Int32 → tq_S → Prop} (hd : jd w h r S) {z0 : tq_S} (hb : cr_b w h r z0) (hto : rto w r S (fun _ => false) p (tq_ai z0 56)) (hi : i % 8 < w) (hi2 : i / 8 < h) (f0 : fr FN z0 z) (hn : NY w h r S p i m T z) (k : ∀ z' m' T', fr FN z0 z' → NY w h r S p (i + 1) m' T' z' → B19 (lN m') (nI (x + 1)) z') : (¬ (tq_ai z 53 i) = 0 → wc_X12_numberOf_52 B8 B19 Q (lN m) a3 (nI x) (nI i) (0 : Int32) z) ∧ ((tq_ai z 53 i) = 0 → wc_X12_numberOf_52 B8 B19 Q (lN m) a3 (nI x) (nI i) (1 : Int32) z) := by
  have hw8 := hd.2.1
  have hw1 := hd.1
  have hh8 := hd.2.2.2.1
  have hr4 := jd_r hd
  obtain ⟨n1, n2, n3, n4, n5, n6⟩ := hn
  have i64 : i < 64 := by omega
  have loop : ∀ (d : Bool), (d = false → T i = true) → (d = true → T i = false) → wc_X12_numberOf_57 B8 B19 Q (lN m) a3 (nI x) (nI i) (bi d) (0 : Int32) z := by
    intro d hd0 hd1
    unfold wc_X12_numberOf_57
    refine lp_inv (fun kk s => ∃ z', fr FN z0 z' ∧ ((s = (lN (m + qs (cval w r i T) kk), bi false, nI kk, z') ∧ T i = true ∧ cs_ix (tq_ai z' 53) = T ∧ kk < wt p T i) ∨ (∃ m3 T', s = (lN m3, bi true, nI kk, z') ∧ NY w h r S p (i + 1) m3 T' z'))) 3 ?_ ⟨z, f0, ?_⟩
    · rintro kk s hkk ⟨z1, f1, hs⟩ B hB
      have hb1 := cr_bf f1 (by decide) (by decide) (by decide) hb
      rcases hs with ⟨rfl, s1, s2, s4⟩ | ⟨m3, T', rfl, s2⟩
      · simp only
        obtain ⟨kt, kt3, ktw, ktc, ktt⟩ := tc_k hw8 hw1 hr4 n2 n5 s1
        unfold wb_X12_numberOf_57
        rw [i_3]
        refine ⟨fun h1 => ?_, fun h1 => ⟨fun h2 => absurd rfl h2, fun _ => ?_⟩⟩
        · rw [i_le (by omega) (by omega)] at h1
          omega
        · rw [i_le (by omega) (by omega)] at h1
          refine sq_choice hd hb1 (by rw [s2]; exact n3) hi hi2 (by omega) ⟨_, rfl, ?_⟩
          rw [s2]
          cases hc : ch w r i T kk with
          | none =>
            refine ⟨fun _ => ?_, fun q => absurd rfl q⟩
            unfold wc_X12_numberOf_154
            intro v e
            rw [i_1, i_add] at e
            subst e
            have v0 := ch_0 hc
            refine hB (by omega) _ ⟨z1, f1, Or.inl ⟨?_, s1, s2, ?_⟩⟩
            · show _ = (lN (m + (qs (cval w r i T) kk + cval w r i T kk)), _)
              rw [v0]; rfl
            · by_cases q : kk = kt
              · subst q; rw [ktc] at hc; cases hc
              · omega
          | some o =>
            obtain ⟨t1, t2, t3⟩ := ch_T hw1 hr4 hc
            have o64 := (n2 o t1).2
            refine ⟨fun q => ?_, fun _ => ?_⟩
            · have q2 : nI o = (-1 : Int32) := q
              rw [nu_eq, i_ti (by omega)] at q2
              have : (-1 : Int32).toInt = -1 := by decide +kernel
              omega
            · rw [show bo (some o) = nI o from rfl]
              refine sq_take (b := false) i64 o64 (fun z2 f2 e2 => ⟨rfl, i_in (by omega) (by omega), ?_⟩)
              have s22 := take_rm s2 e2
              have f12 : fr FN z0 z2 := fr_t f1 (fr_m (by decide) f2)
              have toi : tq_ai z2 56 i = nI (kcode kt) := by
                rw [fr_ai (k := 56) f12 (by decide), ← ktt]
                exact hto i i64 (n4 i s1) rfl
              rw [i_cl (by omega), toi]
              have t131 : wc_X12_numberOf_131 B8 B19 (fun b1 b6 b7 z => B (b1, b6, b7, z)) Q (lN (m + qs (cval w r i T) kk)) a3 (nI x) (nI i) (nI kk) (nI o) (bi (decide (kk = kt))) z2 := by
                unfold wc_X12_numberOf_131
                refine ⟨fun q => ?_, fun q => ?_⟩
                · rw [bi_n] at q
                  have hk := of_decide_eq_true q
                  rw [q]
                  unfold wc_X12_numberOf_154
                  intro v e
                  rw [i_1, i_add] at e
                  subst e
                  subst hk
                  have po := n5 i s1
                  have eo : p i = o := by rw [ktc] at hc; cases hc; rfl
                  refine hB (by omega) _ ⟨z2, f12, Or.inr ⟨m + qs (cval w r i T) kk, cv_rm T i o, rfl, s22, bh_rm n2, re_rm n3, fun j hj => n4 j (cv_rm_t.mp hj).1, pc_rm n5 s1 eo, ?_⟩⟩
                  rw [rk_k i64 s1 ktw, ← ch_o hc] at n6
                  omega
                · rw [bi_0] at q
                  have hk := of_decide_eq_false q
                  rw [q]
                  have hb2 := cr_bf f12 (by decide) (by decide) (by decide) hb
                  refine sp_count hw1 hw8 hh8 (by rw [s22]; exact re_rm n3) hb2 (fun z3 f3 => ⟨_, rfl, fun v e => ?_⟩)
                  have f13 : fr FN z0 z3 := fr_t f12 (fr_m (by decide) f3)
                  rw [s22, cv_bh (bh_rm n2) (by omega), ← t3, l_add] at e
                  subst e
                  have a3' : tq_ai z3 53 = tq_ai z2 53 := fr_ai f3 (by decide)
                  refine sq_take (b := true) i64 o64 (fun z4 f4 e4 => ⟨rfl, ?_⟩)
                  rw [a3'] at e4
                  have s24 := take_back (bh_in n2) s1 t1 s22 e4
                  unfold wc_X12_numberOf_154
                  intro v e
                  rw [i_1, i_add] at e
                  subst e
                  refine hB (by omega) _ ⟨z4, fr_t f13 (fr_m (by decide) f4), Or.inl ⟨?_, s1, s24, by omega⟩⟩
                  show _ = (lN (m + (qs (cval w r i T) kk + cval w r i T kk)), _)
                  rw [Nat.add_assoc]
              have t123 : ∀ c, c = kcode kk → wc_X12_numberOf_123 B8 B19 (fun b1 b6 b7 z => B (b1, b6, b7, z)) Q (lN (m + qs (cval w r i T) kk)) a3 (nI x) (nI i) (nI kk) (nI o) (nI c) (nI (kcode kt)) z2 := by
                intro c hcc
                have kinj : ∀ a b, a < 3 → b < 3 → kcode a = kcode b → a = b := by
                  intro a b ha hb e
                  have ka : a = 0 ∨ a = 1 ∨ a = 2 := by omega
                  have kb : b = 0 ∨ b = 1 ∨ b = 2 := by omega
                  rcases ka with rfl | rfl | rfl <;> rcases kb with rfl | rfl | rfl <;> first | rfl | (exact absurd e (by decide))
                have kb : ∀ a, kcode a < 200 := fun a => by unfold kcode; split <;> (try split) <;> omega
                have k1 := kb kk
                have k2 := kb kt
                unfold wc_X12_numberOf_123
                rw [hcc, i_eq (by omega) (by omega)]
                refine ⟨fun q => ?_, fun q => ?_⟩
                · have : decide (kk = kt) = false := decide_eq_false (fun e => q (by rw [e]))
                  rw [this] at t131; exact t131
                · have : decide (kk = kt) = true := decide_eq_true (kinj kt kk kt3 (by omega) q).symm
                  rw [this] at t131; exact t131
              have kk0 : nI kk = (0 : Int32) ↔ kk = 0 := by rw [i_0]; exact i_eq (by omega) (by omega)
              have kk1 : nI kk = (1 : Int32) ↔ kk = 1 := by rw [i_1]; exact i_eq (by omega) (by omega)
              rw [kk0, kk1]
              refine ⟨fun q0 => ⟨fun q1 => ?_, fun q1 => ?_⟩, fun q0 => ?_⟩
              · have : kk = 2 := by omega
                exact t123 119 (by rw [this]; rfl)
              · exact t123 115 (by rw [q1]; rfl)
              · exact t123 101 (by rw [q0]; rfl)
      · simp only
        have out : wc_X12_numberOf_160 B8 B19 Q (lN m3) a3 (nI x) z1 := by
          unfold wc_X12_numberOf_160
          intro v e
          rw [i_1, i_add] at e
          subst e
          exact k z1 m3 T' f1 s2
        unfold wb_X12_numberOf_57
        exact ⟨fun _ => out, fun _ => ⟨fun _ => out, fun q => absurd q (by decide +kernel)⟩⟩
    · cases hdd : d
      · have ht := hd0 hdd
        obtain ⟨kt, kt3, ktw, ktc, ktt⟩ := tc_k hw8 hw1 hr4 n2 n5 ht
        exact Or.inl ⟨rfl, ht, n1, by omega⟩
      · have ht := hd1 hdd
        refine Or.inr ⟨m, T, rfl, n1, bh_no n2 (by rw [ht]; exact Bool.false_ne_true), n3, n4, n5, ?_⟩
        rw [← n6, rk_s i64, if_neg (by rw [ht]; exact Bool.false_ne_true)]
  refine ⟨fun h1 => ?_, fun h1 => ?_⟩
  · rw [← cs_t i64, n1] at h1
    unfold wc_X12_numberOf_52
    exact loop false (fun _ => h1) (fun q => (by cases q))
  · rw [← cs_f i64, n1] at h1
    unfold wc_X12_numberOf_52
    exact loop true (fun q => (by cases q)) (fun _ => h1)
theorem sq_rnum (hd : jd w h r S) (hj : jr w h r S z) (hp : pc w r S p) (hto : rto w r S (fun _ => false) p (tq_ai z 56)) (k : ∀ z', fr FN z z' → Q (.inl (some (.long (lN (rk w r 0 S p))))) z') : wm_X12_numberOf z Q := by
  have hw8 := hd.2.1
  have hw1 := hd.1
  have hh8 := hd.2.2.2.1
  have hS := hd.2.2.2.2.2
  unfold wm_X12_numberOf
  refine sq_all hj (fun z1 f1 e1 => ⟨rfl, ?_⟩)
  have x1 := ix_b (jd_in hd) e1
  have N0 : NY w h r S p (8 * 0) 0 S z1 := ⟨x1, fun j hj => ⟨by omega, (hS j hj).1⟩, hS, fun _ h => h, hp, Nat.zero_add _⟩
  unfold wc_X12_numberOf_8
  refine lp_inv (fun y s => ∃ z' m' T, s = (lN m', nI y, z') ∧ fr FN z z' ∧ NY w h r S p (8 * y) m' T z') h ?_ ⟨z1, 0, S, rfl, fr_m (by decide) f1, N0⟩
  rintro y s hy ⟨z2, m2, T2, rfl, f2, N2⟩ B hB
  simp only
  have b2 := cr_bf f2 (by decide) (by decide) (by decide) hj.1
  unfold wb_X12_numberOf_8
  rw [b2.2.1]
  refine ⟨fun h1 => ?_, fun h1 => ?_⟩
  · rw [i_le (by omega) (by omega)] at h1
    have e : rk w r (8 * y) T2 p = 0 := by
      have e2 : 8 * y + (64 - 8 * y) = 64 := by omega
      rw [rk_skip (64 - 8 * y) (8 * y) (by omega) (fun j hj1 _ => by
        cases hc : T2 j
        · rfl
        · have := N2.2.2.1 j hc
          omega), e2, rk_64]
    have n6 := N2.2.2.2.2.2
    rw [e, Nat.add_zero] at n6
    rw [n6]
    exact k z2 f2
  · rw [i_le (by omega) (by omega)] at h1
    have hyh : y < h := by omega
    unfold wc_X12_numberOf_19
    refine lp_inv (fun x s => ∃ z' m' T, s = (lN m', nI x, z') ∧ fr FN z z' ∧ NY w h r S p (8 * y + x) m' T z') w ?_ ⟨z2, m2, T2, rfl, f2, N2⟩
    rintro x s hx ⟨z3, m3, T3, rfl, f3, N3⟩ B' hB'
    simp only
    have b3 := cr_bf f3 (by decide) (by decide) (by decide) hj.1
    unfold wb_X12_numberOf_19
    rw [b3.1]
    refine ⟨fun h2 => ?_, fun h2 => ?_⟩
    · rw [i_le (by omega) (by omega)] at h2
      have hxw : x = w := by omega
      subst hxw
      unfold wc_X12_numberOf_166
      intro v e
      rw [i_1, i_add] at e
      subst e
      obtain ⟨q1, q2, q3, q4, q5, q6⟩ := N3
      have a1 : 8 * (y + 1) = (8 * y + x) + (8 - x) := by omega
      have gap : ∀ j, 8 * y + x ≤ j → j < 8 * y + x + (8 - x) → T3 j = false := fun j h1 h2 => by
        cases hc : T3 j
        · rfl
        · have := q3 j hc; omega
      refine hB hyh _ ⟨z3, m3, T3, rfl, f3, q1, fun j hj => ?_, q3, q4, q5, ?_⟩
      · have c1 := q2 j hj
        have c2 := q3 j hj
        omega
      · rw [a1, ← rk_skip (8 - x) _ (by omega) gap]; exact q6
    · rw [i_le (by omega) (by omega)] at h2
      intro v e
      rw [i_8, pk_mul, i_add] at e
      subst e
      rw [i_cl (by omega)]
      refine ⟨i_in (by omega) (by omega), ?_⟩
      exact sq_ncell hd hj.1 hto (by omega) (by omega) f3 N3 (fun z4 m4 T4 f4 N4 => hB' (by omega) _ ⟨z4, m4, T4, rfl, f4, N4⟩)
end RNUM2
