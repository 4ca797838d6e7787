section CNO
variable {w h : Nat} {r : Bool} {S : Nat → Bool} {z : tq_S} {Q : tq_O → tq_S → Prop} {K P : Nat} {C M Z : Nat → Nat} {A : Nat → Int64} {f : Nat → plc} {st : Nat → Nat} {g0 : Nat}
theorem pth_len {n P : Nat} {f : Nat → plc} : ∀ (t c : Nat) (l : Nat → Nat) (j : Nat), (pth n P f t c l j).length ≤ t
  | 0, _, _, _ => Nat.le_refl _
  | t + 1, c, l, j => by
    unfold pth
    split
    · exact Nat.zero_le _
    · exact Nat.succ_le_succ (pth_len t _ _ _)
theorem sq_chosenNumber {j0 : Nat} (hd : jd w h r S) (hk : kdc K C M Z A z) (hs : shps K C Z A) (h24 : fb_ct S 64 ≤ 24) (he : exc w h r S K C M Z A P f st g0 z) (hj : j0 < exn (fb_ct S 64) P f K M) (hch : chs (pth (fb_ct S 64) P f 8 0 (mst K M) j0) z) (kk : ∀ z', fr FSe z z' → memo (VV (fb_ct S 64) P f (TT w h S K Z P f) WW) (GG w h S) z' → Q (.inl (some (.long (lN j0)))) z') : wm_X4_chosenNumber z Q := by
  have hK := hk.2.1
  have hM : ∀ j, j < K → M j ≤ 8 := fun j hj => (hk.2.2 j hj).2.1.2
  have hZ : ∀ k, k < K → 3 ≤ Z k := fun k hk' => (hk.2.2 k hk').2.2.1.2.1
  obtain ⟨n1, gr1, x1, p1, cd1, m1, t1, o1⟩ := he
  have pl := prs_plg hd hs h24 hZ p1
  have hkK : ∀ p, p < P → (f p).2.1 < K := fun p hp => (p1.2 p hp).1
  have tg := TT_g (w := w) (h := h) (K := K) pl h24
  have P12 := x1.2.2.1
  obtain ⟨bg1, bg2, bg3, bg4⟩ := bg_ok (w := w) (h := h) (S := S) (K := K) (M := M) (Z := Z) hM
  obtain ⟨e0, he0⟩ : ∃ e0, e0 = bgE K M Z (fb_ct S 64) := ⟨_, rfl⟩
  have bm := bg_min (S := S) (Z := Z) hM hK
  rw [← he0] at bg1 bg2 bg3 bg4 o1 bm
  obtain ⟨L, hL⟩ : ∃ L, L = pth (fb_ct S 64) P f 8 0 (mst K M) j0 := ⟨_, rfl⟩
  rw [← hL] at hch
  unfold wm_X4_chosenNumber
  refine sq_beginning hk x1.1 h24 ⟨_, rfl, ?_⟩
  rw [show encN 0 0 (bndl K Z (fb_ct S 64) 0 (mst K M)) 0 = e0 from he0.symm]
  obtain ⟨ch1, ch2⟩ := hch
  have L8 : L.length ≤ 8 := by rw [hL]; exact pth_len 8 _ _ _
  unfold wc_X4_chosenNumber_10
  refine lp_inv (fun d s => ∃ e l j N z', s = (lN N, lN e, nI d, z') ∧ fr FSe z z' ∧ memo (VV (fb_ct S 64) P f (TT w h S K Z P f) WW) (GG w h S) z' ∧ ctd w h S K Z e l ∧ 3 * d ≤ pop (e % 2 ^ 24) ∧ j < cnx (fb_ct S 64) P f (8 - d) (e % 2 ^ 24) l ∧ N + j = j0 ∧ d ≤ L.length ∧ L.drop d = pth (fb_ct S 64) P f (8 - d) (e % 2 ^ 24) l j ∧ (d = 0 → e = e0)) L.length ?_ ⟨e0, mst K M, j0, 0, z, rfl, fr_r, m1, ⟨bg1, bg4, bg3, bm⟩, Nat.zero_le _, by rw [bg2]; exact hj, Nat.zero_add _, Nat.zero_le _, by rw [bg2]; exact hL, fun _ => rfl⟩
  rintro d s hdl ⟨e, l, j, N, z4, rfl, f4, m4, c4, p4, j4, nj, dl, l4, d4⟩ B hB
  simp only
  have x4 := exr_f f4 (by decide) (by decide) (by decide) x1
  have e59 := c4.1.1
  unfold wb_X4_chosenNumber_10
  rw [fr_fi f4 (by decide), ch1, i_le (by omega) (by omega)]
  have fullP : fb_ct S 64 ≤ pop (e % 2 ^ 24) + 3 * (8 - d) := by omega
  refine ⟨fun q => ?_, fun q => ?_⟩
  · have de : d = L.length := by omega
    unfold wc_X4_chosenNumber_156
    rw [show (0 : Int64) = lN 0 from rfl, pk_lLE (by omega) (by omega)]
    refine ⟨fun _ => ?_, fun u => absurd (Nat.zero_le _) u⟩
    have emp : pth (fb_ct S 64) P f (8 - d) (e % 2 ^ 24) l j = [] := by rw [← l4, de]; exact List.drop_length ..
    have fl : fb_ct S 64 ≤ tro (e % 2 ^ 24) := by
      refine Classical.byContradiction fun u => ?_
      by_cases d8 : d = 8
      · have := pop_full c4.1.2.1 h24 (by omega)
        omega
      · obtain ⟨t, ht⟩ : ∃ t, 8 - d = t + 1 := ⟨7 - d, by omega⟩
        rw [ht, cnx_s, if_neg u] at j4
        obtain ⟨i, i1, i2, i3⟩ := pidx_x j4
        rw [ht, pth_s u i1 i2 i3] at emp
        cases emp
    rw [cnx_1 fl] at j4
    have : N = j0 := by omega
    rw [this]
    exact kk z4 f4 m4
  rw [show (0 : Int64) = lN 0 from rfl, pk_lLT (by omega) (by omega)]
  refine ⟨fun u => absurd u (Nat.not_lt_zero _), fun _ => sq_firstOpen ⟨_, rfl, ?_⟩⟩
  obtain ⟨o, o24, oe, _, _⟩ := tro_ex (e % 2 ^ 24)
  have dlt : d < L.length := by omega
  rw [x4.1, i_le (by omega) (by omega)]
  refine ⟨fun q2 => absurd l4 ?_, fun q2 => ?_⟩
  · rw [pth_0 q2]
    intro u
    have := List.drop_eq_nil_iff.mp u
    omega
  obtain ⟨so1, so2⟩ := x4.2.2.2.2.1 (tro (e % 2 ^ 24)) (by omega)
  rw [i_cl (by omega), so1]
  refine ⟨i_in (by omega) (by omega), ?_⟩
  obtain ⟨t, ht⟩ : ∃ t, 8 - d = t + 1 := ⟨7 - d, by omega⟩
  rw [ht, cnx_s, if_neg q2] at j4
  have sts4 := x4.2.2.2.2.2
  have zero : ∀ i, i < P → (f i).1 ≠ tro (e % 2 ^ 24) → tm (fb_ct S 64) P f t (e % 2 ^ 24) l i = 0 := fun i _ hf => by
    unfold tm
    rw [if_neg (fun u => hf u.1)]
  have lo : ∀ i, i ≤ st (tro (e % 2 ^ 24)) → fb_sm (tm (fb_ct S 64) P f t (e % 2 ^ 24) l) i = 0 := fun i hi => by
    have : fb_sm (tm (fb_ct S 64) P f t (e % 2 ^ 24) l) i = fb_sm (fun _ => 0) i := fb_sm_cong (fun k hk' => zero k (by omega) (fun u => by
      have := (sts4 (tro (e % 2 ^ 24)) (by omega) k (by omega)).mp (by omega)
      omega))
    rw [this, fb_sm_0]
  obtain ⟨is, is1, is2, is3⟩ := pidx_x j4
  rw [ht, pth_s q2 is1 is2 is3] at l4
  rw [fb_sm_succ] at is3
  have head : L.getD d 0 = is ∧ L.drop (d + 1) = pth (fb_ct S 64) P f t ((e % 2 ^ 24) ||| (f is).2.2.1) (lsub l (f is).2.1 1) (j - fb_sm (tm (fb_ct S 64) P f t (e % 2 ^ 24) l) is) := by
    have := List.drop_eq_getElem_cons dlt
    rw [this] at l4
    refine ⟨?_, (List.cons.inj l4).2⟩
    rw [List.getD_eq_getElem?_getD, List.getElem?_eq_getElem dlt]
    exact (List.cons.inj l4).1
  have stis : st (tro (e % 2 ^ 24)) ≤ is := by
    refine Nat.le_of_not_lt fun u => ?_
    have := zero is is1 (fun u2 => by
      have := (sts4 (tro (e % 2 ^ 24)) (by omega) is is1).mp u
      omega)
    omega
  unfold wc_X4_chosenNumber_51 wc_X4_chosenNumber_53
  refine lp_inv (fun b s => ∃ z5, s = (lN (N + fb_sm (tm (fb_ct S 64) P f t (e % 2 ^ 24) l) (st (tro (e % 2 ^ 24)) + b)), nI (st (tro (e % 2 ^ 24)) + b), z5) ∧ fr FSe z4 z5 ∧ memo (VV (fb_ct S 64) P f (TT w h S K Z P f) WW) (GG w h S) z5) (is - st (tro (e % 2 ^ 24))) ?_ ⟨z4, by rw [Nat.add_zero, lo _ (Nat.le_refl _), Nat.add_zero], fr_r, m4⟩
  rintro b s hb ⟨z5, rfl, f5, m5⟩ B2 hB2
  simp only
  obtain ⟨i, hi⟩ : ∃ i, i = st (tro (e % 2 ^ 24)) + b := ⟨_, rfl⟩
  rw [← hi]
  have x5 := exr_f f5 (by decide) (by decide) (by decide) x4
  have f05 : fr FSe z z5 := fr_t f4 f5
  have st5 : kdc K C M Z A z5 := kdc_f f05 (by decide) (by decide) (by decide) (by decide) (by decide) hk
  have mv5 : ∀ m, m < 8 → gok w h S m = true → mvd w h S m z5 := fun m hm hg i hi => by
    rw [fr_ai f05 (by decide)]
    exact gr1.2.2.2 m hm hg i hi
  have a37 : tq_ai z5 37 d = nI is := by rw [fr_ai f05 (by decide), ch2 d dlt, head.1]
  unfold wb_X4_chosenNumber_53
  rw [i_cl (a := d) (by omega), a37, i_le (by omega) (by omega)]
  refine ⟨i_in (by omega) (by omega), fun q3 => ?_, fun q3 => ?_⟩
  · have ei : i = is := by omega
    subst ei
    unfold wc_X4_chosenNumber_132
    rw [i_cl (a := d) (by omega), a37, i_cl (a := i) (by omega), (x5.2.2.2.1 i is1).1]
    refine ⟨i_in (by omega) (by omega), i_in (by omega) (by omega), ?_⟩
    refine sq_withT hd st5 x5 pl mv5 c4.1 is1 ⟨_, rfl, ?_⟩
    rcases ctd_s (w := w) (h := h) pl hkK hK h24 c4 is1 with ⟨a, bb⟩ | ⟨a, e', bb, c, dd⟩
    · have : tm (fb_ct S 64) P f t (e % 2 ^ 24) l i = 0 := by
        unfold tm
        rw [if_neg (fun u => a u.2)]
      omega
    · intro v ev
      rw [i_1, i_add] at ev
      subst ev
      rw [bb]
      have fi : (f i).1 = tro (e % 2 ^ 24) := Classical.byContradiction fun u => by
        have := zero i is1 u
        omega
      have tmc : tm (fb_ct S 64) P f t (e % 2 ^ 24) l i = cnx (fb_ct S 64) P f t (e' % 2 ^ 24) (lsub l (f i).2.1 1) := by
        unfold tm
        rw [if_pos ⟨fi, a⟩, c]
      have up2 := (tg.2 e i e' c4.1 is1 bb).2
      exact hB (by omega) _ ⟨e', lsub l (f i).2.1 1, j - fb_sm (tm (fb_ct S 64) P f t (e % 2 ^ 24) l) i, N + fb_sm (tm (fb_ct S 64) P f t (e % 2 ^ 24) l) i, z5, rfl, f05, m5, dd, by omega, by rw [show 8 - (d + 1) = t by omega, ← tmc]; omega, by omega, by omega, by rw [show 8 - (d + 1) = t by omega, c]; exact head.2, fun u2 => absurd u2 (by omega)⟩
  have iP : i < P := by omega
  have fi : (f i).1 = tro (e % 2 ^ 24) := by
    have fis : (f is).1 = tro (e % 2 ^ 24) := Classical.byContradiction fun u => by
      have := zero is is1 u
      omega
    have a := (sts4 (tro (e % 2 ^ 24)) (by omega) i iP)
    have c := (sts4 (tro (e % 2 ^ 24) + 1) (by omega) i iP)
    have cis := (sts4 (tro (e % 2 ^ 24) + 1) (by omega) is is1)
    have a1 : ¬ (f i).1 < tro (e % 2 ^ 24) := fun u => by have := a.mpr u; omega
    have b1 := cis.mpr (by omega)
    have c1 := c.mp (by omega)
    omega
  have val := tv_tm (w := w) (h := h) (t := t) pl hkK hK h24 c4 iP fi (by omega) (by omega)
  have sm1 := fb_sm_succ (tm (fb_ct S 64) P f t (e % 2 ^ 24) l) i
  have use : ∀ z6, fr FSe z5 z6 → memo (VV (fb_ct S 64) P f (TT w h S K Z P f) WW) (GG w h S) z6 → wc_X4_chosenNumber_124 (fun b1 b3 b5 z => B (b1, b3, b5, z)) (fun b1 b7 z => B2 (b1, b7, z)) Q (lN e) (nI d) (nI i) (lN (tm (fb_ct S 64) P f t (e % 2 ^ 24) l i)) (lN (N + fb_sm (tm (fb_ct S 64) P f t (e % 2 ^ 24) l) i)) z6 := by
    intro z6 f6 m6
    unfold wc_X4_chosenNumber_124
    intro v ev v2 ev2
    rw [l_add] at ev
    rw [i_1, i_add] at ev2
    subst ev
    subst ev2
    refine hB2 (by omega) _ ⟨z6, ?_, fr_t f5 f6, m6⟩
    rw [show st (tro (e % 2 ^ 24)) + (b + 1) = i + 1 by omega, sm1, Nat.add_assoc]
  rw [i_cl (a := i) (by omega), (x5.2.2.2.1 i iP).1]
  refine ⟨i_in (by omega) (by omega), ?_⟩
  refine sq_withT hd st5 x5 pl mv5 c4.1 iP ⟨_, rfl, ?_⟩
  have search : wc_X4_chosenNumber_103 (fun b1 b3 b5 z => B (b1, b3, b5, z)) (fun b1 b7 z => B2 (b1, b7, z)) Q (lN e) (nI d) (nI i) (match TT w h S K Z P f e i with | none => -1 | some e' => lN e') (lN (N + fb_sm (tm (fb_ct S 64) P f t (e % 2 ^ 24) l) i)) z5 := by
    unfold wc_X4_chosenNumber_103
    unfold tv at val
    cases t' : TT w h S K Z P f e i with
    | none =>
      rw [t'] at val
      have u := use z5 fr_r m5
      rw [← val] at u
      exact ⟨fun a => absurd a (by decide +kernel), fun _ => u⟩
    | some e' =>
      rw [t'] at val
      obtain ⟨g1, g2⟩ := tg.2 e i e' c4.1 iP t'
      have e60 := (tg.1 e' g1).1
      show (0 ≤ lN e' → _) ∧ (¬ 0 ≤ lN e' → _)
      rw [show (0 : Int64) = lN 0 from rfl, pk_lLE (by omega) (by omega), i_1, i_add]
      refine ⟨fun _ => ?_, fun a => absurd (Nat.zero_le _) a⟩
      refine sq_search x5 tg (exc_w hd st5 x5 pl mv5) (7 - d) 40 (d + 1) e' z5 _ (by omega) (by omega) g1 (by omega) fr_r m5 (fun z6 f6 m6 => ⟨_, rfl, ?_⟩)
      have u := use z6 f6 m6
      rw [← val] at u
      exact u
  rw [show (0 : Int32) = nI 0 from rfl, i_eq (by omega) (by omega)]
  refine ⟨fun _ => search, fun d0 => ?_⟩
  rw [show (288 : Int32) = nI 288 from rfl, i_le (by omega) (by omega)]
  refine ⟨fun _ => search, fun i288 => ⟨i_in (by omega) (by omega), ?_⟩⟩
  have ee := d4 d0
  have tr0 : tro (e % 2 ^ 24) = 0 := by rw [ee, bg2, tro_0]
  have ist : i < st 1 := by
    have cc := (sts4 (tro (e % 2 ^ 24) + 1) (by omega) i iP).mpr (by omega)
    rw [tr0] at cc
    exact cc
  have op := o1 (by omega) i ist
  rw [fr_al f05 (by decide), op]
  rw [ee] at val ⊢
  have u := use z5 fr_r m5
  rw [ee, ← val] at u
  exact u
end CNO
