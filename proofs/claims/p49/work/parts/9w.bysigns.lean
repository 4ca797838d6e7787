section BSG
variable {w h : Nat} {r : Bool} {S : Nat → Bool} {z : tq_S} {Q : tq_O → tq_S → Prop}
theorem cv_odd (hd : jd w h false S) (hne : fb_ct (DKs S) 64 ≠ fb_ct (LTs S) 64) : cv_T w false 0 S = 0 := by
  have w8 := hd.2.1
  refine Classical.byContradiction fun e => ?_
  have hp := (ur_ok (w := w) (r := false) (i := 0) (S := S) (m := 0) w8 (fun q => by cases q) rfl (jd_bh hd) (by omega)).1
  generalize ur w false 0 S 0 = p at hp
  have b64 : ∀ j, S j = true → j < 64 := fun j hj => (hd.2.2.2.2.2 j hj).1
  have sp : ∀ (A B : Nat → Bool), (∀ j, A j = true → S j = true ∧ B (p j) = true) → fb_ct A 64 ≤ fb_ct B 64 := fun A B hA => cinj (N := 64) (R := B) (g := p) (fun i _ hi => ⟨b64 _ (hp i (hA i hi).1).1, (hA i hi).2⟩) (fun i j _ _ hi hj e => by
    rw [← (hp i (hA i hi).1).2.1, e, (hp j (hA j hj).1).2.1])
  have a := sp (DKs S) (LTs S) (fun j hj => by
    unfold DKs at hj
    rw [Bool.and_eq_true] at hj
    obtain ⟨x1, x2, x3⟩ := hp j hj.1
    refine ⟨hj.1, ?_⟩
    unfold LTs
    rw [x1, nb_par w8 x3, hj.2]; rfl)
  have b := sp (LTs S) (DKs S) (fun j hj => by
    unfold LTs at hj
    rw [Bool.and_eq_true, Bool.not_eq_true'] at hj
    obtain ⟨x1, x2, x3⟩ := hp j hj.1
    refine ⟨hj.1, ?_⟩
    unfold DKs
    rw [x1, nb_par w8 x3, hj.2]; rfl)
  omega
/-- the remainder that stands for the determinant -/
def dre (P N : Nat) (s : Bool) : Nat := if s = true then N else if N = 0 then 0 else P - N
theorem res_d {p N P res : Nat} {s : Bool} {d : Int} (hp : 0 < p) (hP : p ∣ P) (hN : N ≤ P) (hr : res < p) (hd : (p : Int) ∣ (res : Int) - d) (hs : d = if s = true then (N : Int) else -(N : Int)) : res = dre P N s % p := by
  have key : ∀ D : Nat, (p : Int) ∣ (res : Int) - (D : Int) → res = D % p := by
    intro D h
    have e := Int.emod_emod_of_dvd
    obtain ⟨t, ht⟩ := h
    have h1 : (res : Int) = (D : Int) + (p : Int) * t := by omega
    have h2 : ((res : Nat) : Int) % (p : Int) = ((D : Nat) : Int) % (p : Int) := by rw [h1, Int.add_mul_emod_self_left]
    rw [← Int.natCast_emod, ← Int.natCast_emod, Nat.mod_eq_of_lt hr] at h2
    exact Int.ofNat_inj.mp h2
  unfold dre
  cases s
  · rw [if_neg (by decide)] at hs ⊢
    by_cases q : N = 0
    · rw [if_pos q]
      refine key 0 ?_
      rw [hs, q] at hd
      exact hd
    · rw [if_neg q]
      refine key (P - N) ?_
      obtain ⟨u, hu⟩ := hP
      rw [hs] at hd
      have e : (res : Int) - ((P - N : Nat) : Int) = ((res : Int) - -(N : Int)) - (p : Int) * (u : Int) := by
        have : ((P : Nat) : Int) = (p : Int) * (u : Int) := by rw [hu, Int.natCast_mul]
        omega
      rw [e]
      exact Int.dvd_sub hd (Int.dvd_mul_right _ _)
  · rw [if_pos rfl] at hs ⊢
    rw [hs] at hd
    exact key N hd
theorem sq_signs (hd : jd w h false S) (hg : gr_n w false (mi w h S) (rim w h false) = 0) (hj : jc w h false S z) (k : ∀ z', fr [(3, 17), (3, 18)] z z' → Q (.inl (some (.long (lN (cv_T w false 0 S))))) z') : wm_X3_countCovers z Q := by
  have hw8 := hd.2.1
  have hT := T_b hd
  have d1 : ∀ j, j < 64 → ct (tq_fl z 67 &&& (-6172840429334713771 : Int64)) j = DKs S j := fun j hj64 => by
    rw [ct_and, dk_c j hj64, hj.2.2.2]; rfl
  have nd : ∀ j, j < 64 → ct (6172840429334713770 : Int64) j = !dk j := fun j hj64 => by
    have : (6172840429334713770 : Int64) = (-6172840429334713771 : Int64) ^^^ (-1 : Int64) := by decide +kernel
    rw [this, ct_not, dk_c j hj64, decide_eq_true hj64]; rfl
  have d2 : ∀ j, j < 64 → ct (tq_fl z 67 &&& (6172840429334713770 : Int64)) j = LTs S j := fun j hj64 => by
    rw [ct_and, nd j hj64, hj.2.2.2]; rfl
  unfold wm_X3_countCovers
  intro v1 e1 v2 e2
  rw [← e1] at d1
  rw [← e2] at d2
  refine sp_bc ⟨_, rfl, ?_⟩
  refine sp_bc ⟨_, rfl, ?_⟩
  rw [fb_ct_cong d1, fb_ct_cong d2]
  have c1 := fb_ct_le (DKs S) 64
  have c2 := fb_ct_le (LTs S) 64
  dsimp only
  rw [i_eq (by omega) (by omega)]
  refine ⟨fun hn => ?_, fun hn => ?_⟩
  rotate_left
  · have := k z fr_r
    rw [cv_odd hd hn] at this
    exact this
  obtain ⟨n, h1⟩ : ∃ n, n = fb_ct (DKs S) 64 := ⟨_, rfl⟩
  have h2 : n = fb_ct (LTs S) 64 := by omega
  have n32 : n ≤ 32 := by rw [h1]; exact two_ct hn
  rw [← h1]
  have he := en_S hd h1 h2
  obtain ⟨s, hs⟩ : ∃ s : Bool, dt n (fun i j => kz w (kth (DKs S) i) (kth (LTs S) j)) = if s = true then (cv_T w false 0 S : Int) else -(cv_T w false 0 S : Int) := by
    rcases det_T hd hg he with e | e
    · exact ⟨true, by rw [e]; rfl⟩
    · exact ⟨false, by rw [e]; rfl⟩
  obtain ⟨P, hP⟩ : ∃ P : Nat, P = 2147483647 * 2147483629 := ⟨_, rfl⟩
  obtain ⟨D, hD⟩ : ∃ D, D = dre P (cv_T w false 0 S) s := ⟨_, rfl⟩
  have one : ∀ (p : Nat) (z1 : tq_S) (Q' : tq_O → tq_S → Prop), isp p → 2 < p → p ≤ 2147483647 → p ∣ P → jc w h false S z1 → (∀ z2, fr [(3, 17)] z1 z2 → Q' (.inl none) z2) → (∀ z2, fr [(3, 17)] z1 z2 → mt n (fun i j => km p w (kth (DKs S) i) (kth (LTs S) j)) z2 → Q' (.inl none) z2) → wm_X3_fillSigns v1 v2 (lN p) z1 Q' := fun p z1 Q' hp p2 pm hpP hj1 _ k2 => sq_fillSigns hd hj1 h1 h2 d1 d2 (by omega) pm k2
  have two : ∀ (p : Nat) (z1 : tq_S) (Q' : tq_O → tq_S → Prop), isp p → 2 < p → p ≤ 2147483647 → p ∣ P → mt n (fun i j => km p w (kth (DKs S) i) (kth (LTs S) j)) z1 → (∀ z2, fr [(3, 17)] z1 z2 → Q' (.inl (some (.long (lN (D % p))))) z2) → wm_X3_eliminate (nI n) (lN p) z1 Q' := by
    intro p z1 Q' hp p2 pm hpP hm k2
    refine sq_det n32 hp p2 pm hm (fun i j _ _ => km_lt (by omega)) (fun res z2 f2 r1 r2 => ?_)
    have r3 : (p : Int) ∣ (res : Int) - dt n (fun i j => kz w (kth (DKs S) i) (kth (LTs S) j)) := by
      refine dvd_tr r2 (dt_mod n (fun i j _ _ => ?_))
      unfold zz
      rw [Nat.zero_add, Nat.zero_add]
      exact km_z (by omega)
    have := res_d (N := cv_T w false 0 S) (P := P) (s := s) (by omega) hpP (by omega) r1 r3 hs
    rw [← hD] at this
    rw [this]
    exact k2 z2 f2
  have fin : ∀ z1, fr [(3, 17), (3, 18)] z z1 → tq_al z1 18 0 = lN (D % 2147483647) → tq_al z1 18 1 = lN (D % 2147483629) → wc_X3_countCovers_83 Q z1 := by
    intro z1 f1 a0 a1
    unfold wc_X3_countCovers_83
    refine sq_second a0 a1 ⟨_, rfl, fun v ev => ?_⟩
    have c0 : Int32.toNatClampNeg 0 = 0 := rfl
    have Db : D < P := by
      rw [hD]
      unfold dre
      repeat' split
      all_goals omega
    have dm : D / 2147483647 % 2147483629 = D / 2147483647 := Nat.mod_eq_of_lt (by omega)
    rw [c0, a0, dm, show (2147483647 : Int64) = lN 2147483647 from rfl, l_mul, l_add, show D % 2147483647 + 2147483647 * (D / 2147483647) = D by omega] at ev
    subst ev
    have half : (4611685975477714963 : Int64) / 2 = lN 2305842987738857481 := by decide +kernel
    rw [half, pk_lLE (by omega) (by omega)]
    have w0 : cv_T w false 0 S ≤ 2305842987738857481 := by omega
    refine ⟨fun q => ?_, fun q => ?_⟩
    · have : D = cv_T w false 0 S := by
        rw [hD] at q ⊢
        unfold dre at q ⊢
        by_cases s1 : s = true
        · rw [if_pos s1]
        · rw [if_neg s1] at q ⊢
          by_cases s2 : cv_T w false 0 S = 0
          · rw [if_pos s2, s2]
          · rw [if_neg s2] at q; omega
      rw [this]; exact k z1 f1
    · have : 4611685975477714963 - D = cv_T w false 0 S := by
        rw [hD] at q ⊢
        unfold dre at q ⊢
        by_cases s1 : s = true
        · rw [if_pos s1] at q; omega
        · rw [if_neg s1] at q ⊢
          by_cases s2 : cv_T w false 0 S = 0
          · rw [if_pos s2] at q; omega
          · rw [if_neg s2]; omega
      rw [show (4611685975477714963 : Int64) = lN 4611685975477714963 from rfl, l_sub (by omega), this]
      exact k z1 f1
  have pr : ∀ i : Nat, i < 2 → isp (if i = 0 then 2147483647 else 2147483629) ∧ 2 < (if i = 0 then 2147483647 else 2147483629) ∧ (if i = 0 then 2147483647 else 2147483629) ≤ 2147483647 ∧ (if i = 0 then 2147483647 else 2147483629) ∣ P := by
    intro i hi
    rcases (by omega : i = 0 ∨ i = 1) with e | e
    · subst e
      rw [if_pos rfl]
      exact ⟨isp_1, by omega, by omega, ⟨2147483629, hP⟩⟩
    · subst e
      rw [if_neg (by omega)]
      exact ⟨isp_2, by omega, by omega, ⟨2147483647, by rw [hP]⟩⟩
  have prm : ∀ i : Nat, i < 2 → ∀ (z1 : tq_S) (Q' : tq_O → tq_S → Prop), Q' (.inl (some (.long (lN (if i = 0 then 2147483647 else 2147483629))))) z1 → wm_X3_prime (nI i) z1 Q' := by
    intro i hi z1 Q' kq
    rcases (by omega : i = 0 ∨ i = 1) with e | e
    · subst e
      refine fw_X3_prime ?_
      exact kq
    · subst e
      refine fw_X3_prime ?_
      exact kq
  unfold wc_X3_countCovers_40
  refine lp_inv (fun i st => ∃ z1, st = (nI i, z1) ∧ fr [(3, 17), (3, 18)] z z1 ∧ (1 ≤ i → tq_al z1 18 0 = lN (D % 2147483647)) ∧ (2 ≤ i → tq_al z1 18 1 = lN (D % 2147483629))) 2 ?_ ⟨z, rfl, fr_r, fun q => absurd q (by omega), fun q => absurd q (by omega)⟩
  rintro i st hi ⟨z1, rfl, f1, g1, g2⟩ B hB
  simp only
  unfold wb_X3_countCovers_40
  rw [i_2, i_le (by omega) (by omega)]
  refine ⟨fun q => fin z1 f1 (g1 (by omega)) (g2 (by omega)), fun q => ?_⟩
  obtain ⟨p1, p2, p3, p4⟩ := pr i (by omega)
  refine prm i (by omega) z1 _ ⟨_, rfl, ?_⟩
  obtain ⟨p, hp⟩ : ∃ p : Nat, p = if i = 0 then 2147483647 else 2147483629 := ⟨_, rfl⟩
  rw [← hp] at p1 p2 p3 p4
  dsimp only
  rw [← hp]
  have j1 := jc_f f1 (by decide) (by decide) (by decide) (by decide) hj
  refine sq_fillSigns hd j1 h1 h2 d1 d2 (by omega) p3 (fun z2 f2 m2 => ⟨rfl, ?_⟩)
  refine prm i (by omega) z2 _ ⟨_, rfl, ?_⟩
  dsimp only
  rw [← hp]
  refine two p z2 _ p1 p2 p3 p4 m2 (fun z3 f3 => ⟨_, rfl, i_in (by omega) (by omega), fun z4 e4 v ev => ?_⟩)
  rw [i_1, i_add] at ev
  subst ev
  rw [i_cl (by omega)] at e4
  have a4 : ∀ j, tq_al z4 18 j = if j = i then lN (D % p) else tq_al z3 18 j := fun j => by rw [e4, rw_ale, rw_updL]
  have o3 : tq_al z3 18 = tq_al z1 18 := by rw [fr_al f3 (by decide), fr_al f2 (by decide)]
  refine hB (by omega) _ ⟨z4, rfl, by rw [e4]; exact fr_sal (by decide) (fr_t f1 (fr_t (fr_m (by decide) f2) (fr_m (by decide) f3))), fun _ => ?_, fun q2 => ?_⟩
  · rw [a4, o3]
    by_cases i0 : i = 0
    · rw [if_pos i0.symm, hp, if_pos i0]
    · rw [if_neg (fun e => i0 e.symm)]; exact g1 (by omega)
  · rw [a4, if_pos (by omega), hp, if_neg (by omega)]
theorem sc_bySigns (hd : jd w h r S) (hj : jc w h r S z) (k0 : (r || decide (0 < gr_n w r (mi w h S) (rim w h r))) = true → Q (.inr 4) z) (k1 : (r || decide (0 < gr_n w r (mi w h S) (rim w h r))) = false → ∀ z', fr ([(3, 17), (3, 18)] ++ FT) z z' → ctx z' (tn false (cv_T w r 0 S)) → Q (.inl (some (.int (nI (tn false (cv_T w r 0 S)).length)))) z') : wm_X11_bySigns z Q := by
  have hT := T_b hd
  unfold wm_X11_bySigns
  refine sc_plain hd hj ⟨_, rfl, fun q => ?_, fun q => ?_⟩
  · rw [bi_n] at q
    simp only [Bool.and_eq_true, Bool.not_eq_true', decide_eq_true_eq] at q
    obtain ⟨rfl, g⟩ := q
    refine sq_signs hd g hj (fun z1 f1 => ⟨_, rfl, ?_⟩)
    refine sq_say (neg := false) (by omega) (fun q => (by cases q)) (fun z2 f2 t2 => ⟨_, rfl, k1 (by rw [g]; rfl) z2 (fr_t (fr_m (by decide) f1) (fr_m (by decide) f2)) t2⟩)
  · rw [bi_0] at q
    refine k0 ?_
    cases r
    · simp only [Bool.not_false, Bool.true_and, decide_eq_false_iff_not] at q
      rw [Bool.false_or]
      exact decide_eq_true (by omega)
    · rfl
end BSG
