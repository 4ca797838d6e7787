/-! ===== the reference makes a cover ===== -/
theorem ur_skip {w : Nat} {r : Bool} {m : Nat} {T : Nat → Bool} : ∀ n i, i + n ≤ 64 → (∀ j, i ≤ j → j < i + n → T j = false) → ur w r i T m = ur w r (i + n) T m
  | 0, _, _, _ => rfl
  | n + 1, i, h1, h2 => by
    have e : i + (n + 1) = i + 1 + n := by omega
    rw [ur_s (by omega), if_neg (by rw [h2 i (Nat.le_refl _) (by omega)]; exact Bool.false_ne_true), ur_skip n (i + 1) (by omega) (fun j a b => h2 j (by omega) (by omega)), e]
def ok (w i k : Nat) : Nat := if k = 0 then i + 1 else if k = 1 then i + 8 else i + (w - 1)
section RNUM
variable {w h : Nat} {r : Bool} {S T : Nat → Bool} {z : tq_S} {Q : tq_O → tq_S → Prop} {p : Nat → Nat} {i m : Nat}
theorem ch_o {k o : Nat} (e : ch w r i T k = some o) : o = ok w i k := by
  unfold ch at e
  unfold ok
  split at e
  · split at e
    · cases e; rw [if_pos (by assumption)]
    · cases e
  · split at e
    · split at e
      · cases e; rw [if_neg (by assumption), if_pos (by assumption)]
      · cases e
    · split at e
      · cases e; rw [if_neg (by assumption), if_neg (by assumption)]
      · cases e
theorem ur_k {k : Nat} (hi : i < 64) (ht : T i = true) (hk : k < 3) (h1 : qs (cval w r i T) k ≤ m) (h2 : m - qs (cval w r i T) k < cval w r i T k) : ur w r i T m = sw i (ok w i k) (ur w r (i + 1) (cv_rm T i (ok w i k)) (m - qs (cval w r i T) k)) := by
  rw [ur_s hi, if_pos ht]
  have c0 : cval w r i T 0 = ca w r i T := rfl
  have c1 : cval w r i T 1 = cb w r i T := rfl
  have c2 : cval w r i T 2 = cc w r i T := rfl
  have q0 : qs (cval w r i T) 0 = 0 := rfl
  have q1 : qs (cval w r i T) 1 = ca w r i T := by show 0 + ca w r i T = _; omega
  have q2 : qs (cval w r i T) 2 = ca w r i T + cb w r i T := by show 0 + ca w r i T + cb w r i T = _; omega
  have : k = 0 ∨ k = 1 ∨ k = 2 := by omega
  rcases this with rfl | rfl | rfl
  · rw [q0] at h1 h2 ⊢
    rw [c0] at h2
    rw [if_pos (by omega)]; rfl
  · rw [q1] at h1 h2 ⊢
    rw [c1] at h2
    rw [if_neg (by omega), if_pos (by omega)]; rfl
  · rw [q2] at h1 h2 ⊢
    rw [c2] at h2
    rw [if_neg (by omega), if_neg (by omega), Nat.sub_sub]; rfl
theorem rk_k {k : Nat} (hi : i < 64) (ht : T i = true) (hk : wt p T i = k + 1) : rk w r i T p = qs (cval w r i T) k + rk w r (i + 1) (cv_rm T i (ok w i k)) p := by
  rw [rk_s hi, if_pos ht]
  unfold wt at hk
  rw [if_pos ht] at hk
  by_cases q : p i = i + 1
  · rw [if_pos q] at hk ⊢
    have : k = 0 := by omega
    subst this
    show _ = 0 + _
    rw [Nat.zero_add]; rfl
  · rw [if_neg q] at hk ⊢
    by_cases q2 : p i = i + 8
    · rw [if_pos q2] at hk ⊢
      have : k = 1 := by omega
      subst this
      show _ = 0 + ca w r i T + _
      rw [Nat.zero_add]; rfl
    · rw [if_neg q2] at hk ⊢
      have : k = 2 := by omega
      subst this
      show _ = 0 + ca w r i T + cb w r i T + _
      rw [Nat.zero_add]; rfl
/-- where the reference stands at a cell -/
def NX (w h : Nat) (r : Bool) (S : Nat → Bool) (p : Nat → Nat) (i m : Nat) (T : Nat → Bool) (z : tq_S) : Prop := cs_ix (tq_ai z 53) = T ∧ bh i T ∧ cv_re w h T ∧ (∀ j, T j = true → S j = true) ∧ m < cv_T w r i T ∧ (∀ j, T j = true → p j = ur w r i T m j) ∧ rto w r S T p (tq_ai z 56)
def FM : List (Nat × Nat) := [(2, 53), (3, 54), (3, 55), (2, 56)]
theorem ch_nb {k o : Nat} (e : ch w r i T k = some o) : (k = 0 ∧ o = i + 1 ∧ i % 8 + 1 < w) ∨ (k = 1 ∧ o = i + 8) ∨ (¬ k = 0 ∧ ¬ k = 1 ∧ o = i + (w - 1) ∧ r = true ∧ i % 8 = 0) := by
  unfold ch at e
  split at e
  · split at e
    · rename_i q1 q2
      cases e
      unfold cv_R at q2
      simp only [Bool.and_eq_true, decide_eq_true_eq] at q2
      exact Or.inl ⟨q1, rfl, q2.1⟩
    · cases e
  · split at e
    · split at e
      · cases e; exact Or.inr (Or.inl ⟨by assumption, rfl⟩)
      · cases e
    · split at e
      · rename_i q1 q2 q3
        cases e
        unfold cv_O at q3
        simp only [Bool.and_eq_true, decide_eq_true_eq] at q3
        exact Or.inr (Or.inr ⟨q1, q2, rfl, q3.1.1, q3.1.2⟩)
      · cases e
/-- one cell of the reference's make -/
theorem sq_mcell {a5 : Int32} {x : Nat} {B9 B21 : Int64 → Int32 → tq_S → Prop} (hd : jd w h r S) {z0 : tq_S} (hb : cr_b w h r z0) (hi : i % 8 < w) (hi2 : i / 8 < h) (f0 : fr FM z0 z) (hn : NX w h r S p i m T z) (hm : m < 9223372036854775808) (k : ∀ z' m' T', fr FM z0 z' → m' ≤ m → NX w h r S p (i + 1) m' T' z' → B21 (lN m') (nI (x + 1)) z') : (¬ (tq_ai z 53 i) = 0 → wc_X12_make_55 B9 B21 Q (lN m) a5 (nI x) (nI i) (0 : Int32) z) ∧ ((tq_ai z 53 i) = 0 → wc_X12_make_55 B9 B21 Q (lN m) a5 (nI x) (nI i) (1 : Int32) z) := by
  have hw8 := hd.2.1
  have hw1 := hd.1
  have hh8 := hd.2.2.2.1
  have hr4 := jd_r hd
  obtain ⟨n1, n2, n3, n4, n5, n6, n7⟩ := hn
  have i64 : i < 64 := by omega
  have loop : ∀ (d : Bool), (d = false → T i = true) → (d = true → T i = false) → wc_X12_make_60 B9 B21 Q (lN m) a5 (nI x) (nI i) (bi d) (0 : Int32) z := by
    intro d hd0 hd1
    unfold wc_X12_make_60
    refine lp_inv (fun kk s => ∃ z', fr FM z0 z' ∧ ((s = (lN (m - qs (cval w r i T) kk), bi false, nI kk, z') ∧ T i = true ∧ cs_ix (tq_ai z' 53) = T ∧ rto w r S T p (tq_ai z' 56) ∧ qs (cval w r i T) kk ≤ m) ∨ (∃ m3 T', s = (lN m3, bi true, nI kk, z') ∧ m3 ≤ m ∧ NX w h r S p (i + 1) m3 T' z'))) 3 ?_ ⟨z, f0, ?_⟩
    · rintro kk s hkk ⟨z1, f1, hs⟩ B hB
      have hb1 := cr_bf f1 (by decide) (by decide) (by decide) hb
      rcases hs with ⟨rfl, s1, s2, s3, s4⟩ | ⟨m3, T', rfl, s1, s2⟩
      · simp only
        unfold wb_X12_make_60
        rw [i_3]
        refine ⟨fun h1 => ?_, fun h1 => ⟨fun h2 => absurd rfl h2, fun _ => ?_⟩⟩
        · rw [i_le (by omega) (by omega)] at h1
          have : kk = 3 := by omega
          subst this
          exfalso
          rw [ca_t i64 s1] at n5
          have : qs (cval w r i T) 3 = ca w r i T + cb w r i T + cc w r i T := by show 0 + ca w r i T + cb w r i T + cc w r i T = _; omega
          omega
        · rw [i_le (by omega) (by omega)] at h1
          refine sq_choice hd hb1 (by rw [s2]; exact n3) hi hi2 (by omega) ⟨_, rfl, ?_⟩
          rw [s2]
          cases hc : ch w r i T kk with
          | none =>
            refine ⟨fun _ => ?_, fun q => absurd rfl q⟩
            unfold wc_X12_make_139
            intro v e
            rw [i_1, i_add] at e
            subst e
            have v0 := ch_0 hc
            refine hB (by omega) _ ⟨z1, f1, Or.inl ⟨?_, s1, s2, s3, ?_⟩⟩
            · show _ = (lN (m - (qs (cval w r i T) kk + cval w r i T kk)), _)
              rw [v0]; rfl
            · show qs (cval w r i T) kk + cval w r i T kk ≤ m
              omega
          | some o =>
            obtain ⟨t1, t2, t3⟩ := ch_T hw1 hr4 hc
            have o64 := (n2 o t1).2
            refine ⟨fun q => ?_, fun _ => ?_⟩
            · have q2 : nI o = (-1 : Int32) := q
              rw [nu_eq, i_ti (by omega)] at q2
              have : (-1 : Int32).toInt = -1 := by decide +kernel
              omega
            · rw [show bo (some o) = nI o from rfl]
              refine sq_take (b := false) i64 o64 (fun z2 f2 e2 => ⟨rfl, ?_⟩)
              have s22 := take_rm s2 e2
              have f12 : fr FM z0 z2 := fr_t f1 (fr_m (by decide) f2)
              have hb2 := cr_bf f12 (by decide) (by decide) (by decide) hb
              refine sp_count hw1 hw8 hh8 (by rw [s22]; exact re_rm n3) hb2 (fun z3 f3 => ⟨_, rfl, ?_⟩)
              have f13 : fr FM z0 z3 := fr_t f12 (fr_m (by decide) f3)
              rw [s22, cv_bh (bh_rm n2) (by omega), ← t3]
              have vb : cval w r i T kk ≤ 1853020188851841 := by
                rw [t3]; exact cv_big (fun q => by have := hr4 q; omega) (cv_in_rm (bh_in n2))
              have cmp : lN (cval w r i T kk) ≤ lN (m - qs (cval w r i T) kk) ↔ cval w r i T kk ≤ m - qs (cval w r i T) kk := pk_lLE (by omega) (by omega)
              have a3 : tq_ai z3 53 = tq_ai z2 53 := fr_ai f3 (by decide)
              have a4 : tq_ai z3 56 = tq_ai z1 56 := (fr_ai f3 (by decide)).trans (fr_ai f2 (by decide))
              refine ⟨fun h4 v e => ?_, fun h4 => ?_⟩
              · rw [cmp] at h4
                rw [l_sub h4] at e
                subst e
                refine sq_take (b := true) i64 o64 (fun z4 f4 e4 => ⟨rfl, ?_⟩)
                rw [a3] at e4
                have s24 := take_back (bh_in n2) s1 t1 s22 e4
                unfold wc_X12_make_139
                intro v e
                rw [i_1, i_add] at e
                subst e
                refine hB (by omega) _ ⟨z4, fr_t f13 (fr_m (by decide) f4), Or.inl ⟨?_, s1, s24, ?_, ?_⟩⟩
                · show _ = (lN (m - (qs (cval w r i T) kk + cval w r i T kk)), _)
                  rw [Nat.sub_sub]
                · rw [fr_ai (k := 56) f4 (by decide), a4]; exact s3
                · show qs (cval w r i T) kk + cval w r i T kk ≤ m
                  omega
              · rw [cmp] at h4
                have hur := ur_k i64 s1 (by omega) s4 (by omega : m - qs (cval w r i T) kk < cval w r i T kk)
                rw [← ch_o hc] at hur
                have pi : p i = o := by rw [n6 i s1, hur]; unfold sw; rw [if_pos rfl]
                have po : p o = i := by rw [n6 o t1, hur]; unfold sw; rw [if_neg (by omega), if_pos rfl]
                have fin : ∀ z4, fr [(2, 56)] z3 z4 → (∀ j, tq_ai z4 56 j = if j = o then nI (tc w r p o) else if j = i then nI (tc w r p i) else tq_ai z3 56 j) → wc_X12_make_139 B9 B21 (fun b3 b8 b9 z => B (b3, b8, b9, z)) Q (lN (m - qs (cval w r i T) kk)) a5 (nI x) (nI i) (1 : Int32) (nI kk) z4 := by
                  intro z4 f4 e4
                  unfold wc_X12_make_139
                  intro v e
                  rw [show (1 : Int32) = nI 1 from rfl, i_add] at e
                  subst e
                  refine hB (by omega) _ ⟨z4, fr_t f13 (fr_m (by decide) f4), Or.inr ⟨m - qs (cval w r i T) kk, cv_rm T i o, rfl, by omega, ?_, bh_rm n2, re_rm n3, fun j hj => n4 j (cv_rm_t.mp hj).1, by rw [← t3]; omega, fun j hj => ?_, fun j hj hs ht => ?_⟩⟩
                  · rw [fr_ai (k := 53) f4 (by decide), a3]; exact s22
                  · rw [cv_rm_t] at hj
                    rw [n6 j hj.1, hur]
                    unfold sw
                    rw [if_neg hj.2.1, if_neg hj.2.2]
                  · rw [e4]
                    by_cases q1 : j = o
                    · rw [if_pos q1, q1]
                    · rw [if_neg q1]
                      by_cases q2 : j = i
                      · rw [if_pos q2, q2]
                      · rw [if_neg q2, a4]
                        rw [cv_rm_f q2 q1] at ht
                        exact s3 j hj hs ht
                rcases ch_nb hc with ⟨k0, eo, hx1⟩ | ⟨k1, eo⟩ | ⟨k0, k1, eo, hrt, hx0⟩
                · subst k0; subst eo
                  obtain ⟨c1, c2⟩ := tc_R (w := w) (r := r) hr4 hx1 pi po
                  refine sq_lay0 (by omega) (fun z4 f4 e4 => ⟨rfl, fin z4 f4 (fun j => ?_)⟩)
                  rw [e4, c1, c2]
                · subst k1; subst eo
                  obtain ⟨c1, c2⟩ := tc_D (w := w) (r := r) hw8 hw1 pi po
                  refine sq_lay1 (by omega) (fun z4 f4 e4 => ⟨rfl, fin z4 f4 (fun j => ?_)⟩)
                  rw [e4, c1, c2]
                · have k2 : kk = 2 := by omega
                  subst k2; subst eo
                  obtain ⟨c1, c2⟩ := tc_O (w := w) (r := r) hw8 hr4 hrt hx0 pi po
                  refine sq_lay2 (by omega) o64 (fun z4 f4 e4 => ⟨rfl, fin z4 f4 (fun j => ?_)⟩)
                  rw [e4, c1, c2]
      · simp only
        have out : wc_X12_make_145 B9 B21 Q (lN m3) a5 (nI x) z1 := by
          unfold wc_X12_make_145
          intro v e
          rw [i_1, i_add] at e
          subst e
          exact k z1 m3 T' f1 s1 s2
        unfold wb_X12_make_60
        exact ⟨fun _ => out, fun _ => ⟨fun _ => out, fun q => absurd q (by decide +kernel)⟩⟩
    · cases hdd : d
      · exact Or.inl ⟨rfl, hd0 hdd, n1, n7, Nat.zero_le _⟩
      · have ht := hd1 hdd
        refine Or.inr ⟨m, T, rfl, Nat.le_refl _, n1, bh_no n2 (by rw [ht]; exact Bool.false_ne_true), n3, n4, ?_, fun j hj => ?_, n7⟩
        · rw [← cv_no i64 ht]; exact n5
        · rw [n6 j hj, ur_s i64, if_neg (by rw [ht]; exact Bool.false_ne_true)]
  refine ⟨fun h1 => ?_, fun h1 => ?_⟩
  · rw [← cs_t i64, n1] at h1
    unfold wc_X12_make_55
    exact loop false (fun _ => h1) (fun q => (by cases q))
  · rw [← cs_f i64, n1] at h1
    unfold wc_X12_make_55
    exact loop true (fun q => (by cases q)) (fun _ => h1)
theorem NX_w {y : Nat} (bw : w ≤ 8) (hy : y < 8) (hn : NX w h r S p (8 * y + w) m T z) : NX w h r S p (8 * (y + 1)) m T z := by
  obtain ⟨n1, n2, n3, n4, n5, n6, n7⟩ := hn
  have a1 : 8 * (y + 1) = (8 * y + w) + (8 - w) := by omega
  have gap : ∀ j, 8 * y + w ≤ j → j < 8 * y + w + (8 - w) → T j = false := fun j h1 h2 => by
    cases hc : T j
    · rfl
    · have := n3 j hc; omega
  refine ⟨n1, fun j hj => ?_, n3, n4, ?_, fun j hj => ?_, n7⟩
  · have b1 := n2 j hj
    have b2 := n3 j hj
    omega
  · rw [a1, ← cv_skip (by omega) gap]; exact n5
  · rw [a1, ← ur_skip (8 - w) _ (by omega) gap]; exact n6 j hj
theorem sq_rmake (hd : jd w h r S) (hj : jr w h r S z) (hm : m < cv_T w r 0 S) (k : ∀ z', fr [(2, 53), (3, 54), (3, 55), (2, 56), (0, 3272)] z z' → tq_fi z' 3272 = 1 → rto w r S (fun _ => false) (ur w r 0 S m) (tq_ai z' 56) → Q (.inl none) z') : wm_X12_make (lN m) z Q := by
  have hw8 := hd.2.1
  have hw1 := hd.1
  have hh8 := hd.2.2.2.1
  have hS := hd.2.2.2.2.2
  have mb : m < 9223372036854775808 := by
    have := cv_big (w := w) (r := r) (i := 0) (fun q => by have := jd_r hd q; omega) (jd_in hd)
    omega
  unfold wm_X12_make
  refine sq_all hj (fun z1 f1 e1 => ⟨rfl, ?_⟩)
  have x1 := ix_b (jd_in hd) e1
  have b1 := cr_bf f1 (by decide) (by decide) (by decide) hj.1
  have N0 : NX w h r S (ur w r 0 S m) (8 * 0) m S z1 := ⟨x1, fun j hj => ⟨by omega, (hS j hj).1⟩, hS, fun _ h => h, hm, fun _ _ => rfl, fun j _ hs ht => by rw [hs] at ht; cases ht⟩
  unfold wc_X12_make_9
  refine lp_inv (fun y s => ∃ z' m' T, s = (lN m', nI y, z') ∧ m' ≤ m ∧ fr FM z z' ∧ NX w h r S (ur w r 0 S m) (8 * y) m' T z') h ?_ ⟨z1, m, S, rfl, Nat.le_refl _, fr_m (by decide) f1, N0⟩
  rintro y s hy ⟨z2, m2, T2, rfl, l2, f2, N2⟩ B hB
  simp only
  have b2 := cr_bf f2 (by decide) (by decide) (by decide) hj.1
  unfold wb_X12_make_9
  rw [b2.2.1]
  refine ⟨fun h1 => ?_, fun h1 => ?_⟩
  · rw [i_le (by omega) (by omega)] at h1
    unfold wc_X12_make_157
    intro z3 e3
    refine k z3 (by rw [e3]; exact fr_sfi (by decide) (fr_m (by decide) f2)) (by rw [e3]; rfl) (fun j hj hs _ => ?_)
    rw [e3]
    refine N2.2.2.2.2.2.2 j hj hs ?_
    cases hc : T2 j
    · rfl
    · have := N2.2.1 j hc
      have := hS j hs
      omega
  · rw [i_le (by omega) (by omega)] at h1
    have hyh : y < h := by omega
    unfold wc_X12_make_21
    refine lp_inv (fun x s => ∃ z' m' T, s = (lN m', nI x, z') ∧ m' ≤ m ∧ fr FM z z' ∧ NX w h r S (ur w r 0 S m) (8 * y + x) m' T z') w ?_ ⟨z2, m2, T2, rfl, l2, f2, N2⟩
    rintro x s hx ⟨z3, m3, T3, rfl, l3, f3, N3⟩ B' hB'
    simp only
    have b3 := cr_bf f3 (by decide) (by decide) (by decide) hj.1
    unfold wb_X12_make_21
    rw [b3.1]
    refine ⟨fun h2 => ?_, fun h2 => ?_⟩
    · rw [i_le (by omega) (by omega)] at h2
      have hxw : x = w := by omega
      subst hxw
      unfold wc_X12_make_151
      intro v e
      rw [i_1, i_add] at e
      subst e
      exact hB hyh _ ⟨z3, m3, T3, rfl, l3, f3, NX_w hw8 (by omega) N3⟩
    · rw [i_le (by omega) (by omega)] at h2
      intro v e
      rw [i_8, pk_mul, i_add] at e
      subst e
      rw [i_cl (by omega)]
      refine ⟨i_in (by omega) (by omega), ?_⟩
      exact sq_mcell hd hj.1 (by omega) (by omega) f3 N3 (by omega) (fun z4 m4 T4 f4 l4 N4 => hB' (by omega) _ ⟨z4, m4, T4, rfl, by omega, f4, N4⟩)
end RNUM
