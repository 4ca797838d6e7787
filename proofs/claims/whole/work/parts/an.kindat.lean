/-! ===== kindAt: the calls ===== -/
section KAT
variable {w h : Nat} {r : Bool} {S : Nat → Bool} {z : tq_S} {Q : tq_O → tq_S → Prop} {K P : Nat} {C M Z : Nat → Nat} {A : Nat → Int64} {f : Nat → plc} {st : Nat → Nat} {g0 : Nat}
/-- each open cell is in just one of the places -/
theorem pth_one (hn : fb_ct S 64 ≤ 24) (hpop : ∀ p, p < P → 3 ≤ pop (f p).2.2.1 ∧ (f p).2.2.1 < 2 ^ fb_ct S 64) : ∀ (t c : Nat) (l : Nat → Nat) (j : Nat), c < 2 ^ fb_ct S 64 → fb_ct S 64 ≤ pop c + 3 * t → j < cnx (fb_ct S 64) P f t c l → (∀ k, k < (pth (fb_ct S 64) P f t c l j).length → (pth (fb_ct S 64) P f t c l j).getD k 0 < P ∧ (f ((pth (fb_ct S 64) P f t c l j).getD k 0)).2.2.1 &&& c = 0) ∧ (∀ b, b < fb_ct S 64 → c.testBit b = false → ∃ k, k < (pth (fb_ct S 64) P f t c l j).length ∧ (f ((pth (fb_ct S 64) P f t c l j).getD k 0)).2.2.1.testBit b = true ∧ ∀ k', k' < (pth (fb_ct S 64) P f t c l j).length → (f ((pth (fb_ct S 64) P f t c l j).getD k' 0)).2.2.1.testBit b = true → k' = k) ∧ (pth (fb_ct S 64) P f t c l j).length ≤ t := by
  intro t
  induction t with
  | zero =>
    intro c l j hc ht hj
    have full := pop_full hc hn (by omega)
    obtain ⟨o, o24, oe, o1, o2⟩ := tro_ex c
    refine ⟨fun k hk => absurd hk (Nat.not_lt_zero _), fun b hb h0 => ?_, Nat.le_refl _⟩
    rw [o1 b (by omega)] at h0; cases h0
  | succ t ih =>
    intro c l j hc ht hj
    by_cases u : fb_ct S 64 ≤ tro c
    · obtain ⟨o, o24, oe, o1, o2⟩ := tro_ex c
      rw [pth_0 u]
      refine ⟨fun k hk => absurd hk (Nat.not_lt_zero _), fun b hb h0 => ?_, Nat.zero_le _⟩
      rw [o1 b (by omega)] at h0; cases h0
    · rw [cnx_s, if_neg u] at hj
      obtain ⟨i, i1, i2, i3⟩ := pidx_x hj
      rw [pth_s u i1 i2 i3]
      rw [fb_sm_succ] at i3
      have ti : j - fb_sm (tm (fb_ct S 64) P f t c l) i < tm (fb_ct S 64) P f t c l i := by omega
      have cond : (f i).1 = tro c ∧ c &&& (f i).2.2.1 = 0 ∧ l (f i).2.1 ≠ 0 := by
        refine Classical.byContradiction fun e => ?_
        unfold tm at ti
        rw [if_neg e] at ti
        exact absurd ti (Nat.not_lt_zero _)
      have te : tm (fb_ct S 64) P f t c l i = cnx (fb_ct S 64) P f t (c ||| (f i).2.2.1) (lsub l (f i).2.1 1) := by
        unfold tm
        rw [if_pos cond]
      rw [te] at ti
      have po := pop_or cond.2.1
      obtain ⟨p3, pm⟩ := hpop i i1
      obtain ⟨h1, h2, h3⟩ := ih (c ||| (f i).2.2.1) (lsub l (f i).2.1 1) _ (Nat.or_lt_two_pow hc pm) (by omega) ti
      generalize pth (fb_ct S 64) P f t (c ||| (f i).2.2.1) (lsub l (f i).2.1 1) (j - fb_sm (tm (fb_ct S 64) P f t c l) i) = L at h1 h2 h3 ⊢
      have dj : ∀ k, k < L.length → ∀ b, (c ||| (f i).2.2.1).testBit b = true → (f (L.getD k 0)).2.2.1.testBit b = false := fun k hk b hb => by
        have := congrArg (fun x => Nat.testBit x b) (h1 k hk).2
        rw [Nat.zero_testBit, Nat.testBit_and, hb, Bool.and_true] at this
        exact this
      refine ⟨fun k hk => ?_, fun b hb h0 => ?_, by rw [List.length_cons]; omega⟩
      · cases k with
        | zero =>
          refine ⟨i1, ?_⟩
          show (f i).2.2.1 &&& c = 0
          rw [Nat.and_comm]; exact cond.2.1
        | succ k =>
          rw [List.length_cons] at hk
          refine ⟨(h1 k (by omega)).1, ?_⟩
          refine Nat.eq_of_testBit_eq fun b => ?_
          show ((f (L.getD k 0)).2.2.1 &&& c).testBit b = _
          rw [Nat.zero_testBit, Nat.testBit_and]
          cases e : c.testBit b
          · rw [Bool.and_false]
          · rw [dj k (by omega) b (by rw [Nat.testBit_or, e]; rfl)]; rfl
      · cases e : (f i).2.2.1.testBit b
        · obtain ⟨k, k1, k2, k3⟩ := h2 b hb (by rw [Nat.testBit_or, h0, e]; rfl)
          refine ⟨k + 1, by rw [List.length_cons]; omega, k2, fun k' hk' hb' => ?_⟩
          cases k' with
          | zero =>
            have hb' : (f i).2.2.1.testBit b = true := hb'
            rw [e] at hb'; cases hb'
          | succ k' =>
            rw [List.length_cons] at hk'
            rw [k3 k' (by omega) hb']
        · refine ⟨0, by rw [List.length_cons]; omega, e, fun k' hk' hb' => ?_⟩
          cases k' with
          | zero => rfl
          | succ k' =>
            rw [List.length_cons] at hk'
            have hb' : (f (L.getD k' 0)).2.2.1.testBit b = true := hb'
            rw [dj k' (by omega) b (by rw [Nat.testBit_or, e, Bool.or_true])] at hb'; cases hb'
/-- the kind at a cell, in the places of L -/
theorem sq_chosenKind {L : List Nat} {x y k0 : Nat} (hx : exr (fb_ct S 64) P f st z) (hn : cnm S z) (hc : chs L z) (hL : ∀ k, k < L.length → L.getD k 0 < P) (l8 : L.length ≤ 8) (hxy : x < 8 ∧ y < 8) (hS : S (8 * y + x) = true) (h1 : k0 < L.length) (h2 : (f (L.getD k0 0)).2.2.1.testBit (fb_ct S (8 * y + x)) = true) (h3 : ∀ k', k' < L.length → (f (L.getD k' 0)).2.2.1.testBit (fb_ct S (8 * y + x)) = true → k' = k0) (kk : Q (.inl (some (.int (nI (f (L.getD k0 0)).2.1)))) z) : wm_X4_chosenKind (nI x) (nI y) z Q := by
  have c64 : 8 * y + x < 64 := by omega
  have lt := ct_in c64 hS
  have n24 := hx.2.1
  have P12 := hx.2.2.1
  unfold wm_X4_chosenKind
  rw [show (8 : Int32) * nI y + nI x = nI (8 * y + x) by rw [i_8, pk_mul, i_add], i_cl (by omega), hn.2.2 _ c64, if_pos hS]
  refine ⟨i_in c64 (by omega), fun v e => ?_⟩
  subst e
  unfold wc_X4_chosenKind_15
  refine lp_inv (fun k s => s = (nI k, z)) k0 ?_ rfl
  rintro k s hk rfl B hB
  simp only
  unfold wb_X4_chosenKind_15
  have hL0 := hL k (by omega)
  obtain ⟨q29, qb⟩ := hx.2.2.2.1 _ hL0
  rw [hc.1, i_le (by omega) (by omega), i_cl (by omega), hc.2 k (by omega), i_cl (by omega), q29, ct_t1 (by omega), pcE_c qb (by omega)]
  refine ⟨fun q => absurd q (by omega), fun _ => ⟨i_in (by omega) (by omega), i_in (by omega) (by omega), fun q v e => ?_, fun q => ?_⟩⟩
  · rw [i_1, i_add] at e
    subst e
    refine hB ?_ _ rfl
    by_cases u : k = k0
    · rw [u, h2] at q; cases q
    · omega
  · have q : (f (L.getD k 0)).2.2.1.testBit (fb_ct S (8 * y + x)) = true := by simpa using q
    have e := h3 k (by omega) q
    unfold wc_X4_chosenKind_45
    rw [i_cl (by omega), hc.2 k (by omega), i_cl (by omega), q29, pcE_k qb, l_i32, e]
    have lk0 := hL k0 h1
    exact ⟨i_in (by omega) (by omega), i_in (by omega) (by omega), kk⟩
/-- the kind that the class and the reference tell -/
def kat (S : Nat → Bool) (P : Nat) (f : Nat → plc) (K : Nat) (M : Nat → Nat) (j c k : Nat) : Prop := ∃ k0, k0 < (pth (fb_ct S 64) P f 8 0 (mst K M) j).length ∧ (f ((pth (fb_ct S 64) P f 8 0 (mst K M) j).getD k0 0)).2.2.1.testBit (fb_ct S c) = true ∧ (∀ k', k' < (pth (fb_ct S 64) P f 8 0 (mst K M) j).length → (f ((pth (fb_ct S 64) P f 8 0 (mst K M) j).getD k' 0)).2.2.1.testBit (fb_ct S c) = true → k' = k0) ∧ k = (f ((pth (fb_ct S 64) P f 8 0 (mst K M) j).getD k0 0)).2.1
theorem kat_1 {j c k k' : Nat} (h1 : kat S P f K M j c k) (h2 : kat S P f K M j c k') : k = k' := by
  obtain ⟨a, a1, a2, a3, a4⟩ := h1
  obtain ⟨b, b1, b2, b3, b4⟩ := h2
  rw [a4, b4, a3 b b1 b2]
theorem sc_kindAt {a1 a2 a3 : Int32} (hd : jd w h r S) (hj : jc w h r S z) (hk : kdc K C M Z A z) (hs : shps K C Z A) (hT : ∀ P f st g z', exc w h r S K C M Z A P f st g z' → exn (fb_ct S 64) P f K M < 2147483648) (hc : tq_fi z 1807 = tq_fi z 68 → tq_fi z 1808 = tq_fi z 1478 → ∃ P f st g, exc w h r S K C M Z A P f st g z) (k0 : 24 < fb_ct S 64 → Q (.inr 4) z) (k1 : fb_ct S 64 ≤ 24 → ∀ z' P f st g, fr FRf z z' → exc w h r S K C M Z A P f st g z' → tq_fi z' 1807 = tq_fi z' 68 → tq_fi z' 1808 = tq_fi z' 1478 → (z' = z ∨ tq_fl z' 1810 = -1) → (∀ j, j < exn (fb_ct S 64) P f K M → a1 ≠ nI j) → Q (.inr 5) z') (k2 : fb_ct S 64 ≤ 24 → ∀ z' P f st g, fr FRf z z' → exc w h r S K C M Z A P f st g z' → tq_fi z' 1807 = tq_fi z' 68 → tq_fi z' 1808 = tq_fi z' 1478 → (z' = z ∨ tq_fl z' 1810 = -1) → (∃ j, j < exn (fb_ct S 64) P f K M ∧ a1 = nI j) → ho w h S a2 a3 = false → Q (.inr 3) z') (k3 : fb_ct S 64 ≤ 24 → ∀ z' P f st g j x y k, fr (FRf ++ FCh) z z' → exc w h r S K C M Z A P f st g z' → tq_fi z' 1807 = tq_fi z' 68 → tq_fi z' 1808 = tq_fi z' 1478 → (tq_fl z' 1810 = tq_fl z 1810 ∧ (tq_fi z 1807 = tq_fi z 68 ∧ tq_fi z 1808 = tq_fi z 1478) ∨ tq_fl z' 1810 = -1) → j < exn (fb_ct S 64) P f K M → a1 = nI j → a2 = nI x → a3 = nI y → x < w → y < h → S (8 * y + x) = true → kat S P f K M j (8 * y + x) k → Q (.inl (some (.int (nI k)))) z') : wm_X11_kindAt a1 a2 a3 z Q := by
  have hM : ∀ j, j < K → M j ≤ 8 := fun j hj => (hk.2.2 j hj).2.1.2
  have hZ : ∀ k, k < K → 3 ≤ Z k := fun k hk' => (hk.2.2 k hk').2.2.1.2.1
  have hw8 := hd.2.1
  have hh8 := hd.2.2.2.1
  have b64 := fb_ct_le S 64
  unfold wm_X11_kindAt
  refine sq_size hj ⟨_, rfl, ?_⟩
  dsimp only
  rw [show (24 : Int32) = nI 24 from rfl, i_le (by omega) (by omega)]
  refine ⟨fun h24 => ?_, fun h24 => k0 (by omega)⟩
  have fin : ∀ z' P f st g, fr FRf z z' → exc w h r S K C M Z A P f st g z' → tq_fi z' 1807 = tq_fi z' 68 → tq_fi z' 1808 = tq_fi z' 1478 → ((z' = z ∧ tq_fi z 1807 = tq_fi z 68 ∧ tq_fi z 1808 = tq_fi z 1478) ∨ tq_fl z' 1810 = -1) → ((a1 < 0 → wc_X11_kindAt_47 Q z') ∧ (¬ a1 < 0 → ((Int32.toInt64 a1 < tq_fl z' 1809 → wm_X1_holds a2 a3 z' (tq_wi fun r5 z4 => ((¬ r5 = 0 → wm_X4_choose (Int32.toInt64 a1) z4 (tq_wv fun z6 => wm_X4_chosenKind a2 a3 z6 (tq_wi fun r8 z7 => Q (.inl (some (.int r8))) z7))) ∧ (r5 = 0 → Q (.inr 3) z4)))) ∧ (¬ Int32.toInt64 a1 < tq_fl z' 1809 → wc_X11_kindAt_47 Q z')))) := by
    intro z' P f st g f1 he c1 c2 c3
    have c3' : z' = z ∨ tq_fl z' 1810 = -1 := c3.elim (fun a => Or.inl a.1) Or.inr
    have pl := prs_plg hd hs h24 hZ he.2.2.2.1
    have tb := hT P f st g z' he
    have t1 : tq_fl z' 1809 = lN (exn (fb_ct S 64) P f K M) := by
      rw [he.2.2.2.2.2.2.1, VV_bg pl (fun p hp => (he.2.2.2.1.2 p hp).1) hk.2.1 hM h24]
    have no : (∀ j, j < exn (fb_ct S 64) P f K M → a1 ≠ nI j) → wc_X11_kindAt_47 Q z' := fun hn => k1 h24 z' P f st g f1 he c1 c2 c3' hn
    refine ⟨fun u => no (fun j hj e => ?_), fun u => ?_⟩
    · rw [e, show (0 : Int32) = nI 0 from rfl, i_lt (by omega) (by omega)] at u
      exact absurd u (Nat.not_lt_zero _)
    obtain ⟨j, jb, rfl⟩ := i_ex u
    rw [t1, i_to (by omega), pk_lLT (by omega) (by omega)]
    refine ⟨fun hj' => ?_, fun hj' => no (fun j' hj2 e => ?_)⟩
    · have jz' := jc_f f1 (by decide) (by decide) (by decide) (by decide) hj
      refine sq_holds hw8 hh8 jz' ⟨_, rfl, fun hh => ?_, fun hh => ?_⟩
      · rw [bi_n] at hh
        obtain ⟨x, y, rfl, rfl, xw, yh, sS⟩ := ho_t hw8 hh8 hh
        have kd := kdc_f f1 (by decide) (by decide) (by decide) (by decide) (by decide) hk
        refine sq_chooseE hd kd hs h24 he tb hj' (fun z2 f2 m2 ch2 => ⟨rfl, ?_⟩)
        obtain ⟨o1, o2, o3⟩ := pth_one (P := P) (f := f) h24 (fun p hp => ⟨(pl.1 p hp).2.2.2.2.2, (pl.1 p hp).2.1⟩) 8 0 (mst K M) j (Nat.two_pow_pos _) (by omega) hj'
        have lt := ct_in (p := S) (i := 8 * y + x) (n := 64) (by omega) sS
        obtain ⟨kx, q1, q2, q3⟩ := o2 (fb_ct S (8 * y + x)) lt (Nat.zero_testBit _)
        have x2 := exr_f f2 (by decide) (by decide) (by decide) he.2.2.1
        have n2 := cnm_f f2 (by decide) (by decide) (by decide) he.1
        refine sq_chosenKind x2 n2 ch2 (fun k hk' => (o1 k hk').1) o3 ⟨by omega, by omega⟩ sS q1 q2 q3 ⟨_, rfl, ?_⟩
        have g2 : grd w h r S g z2 := by
          obtain ⟨y1, y2, y3, y4⟩ := he.2.1
          exact ⟨by rw [fr_fi f2 (by decide)]; exact y1, y2, y3, fun m hm hg i hi => by rw [fr_ai f2 (by decide)]; exact y4 m hm hg i hi⟩
        have p2 : prs w h r S K C A P f z2 := ⟨⟨by rw [fr_fi f2 (by decide)]; exact he.2.2.2.1.1.1, fun p hp => by rw [fr_al f2 (by decide)]; exact he.2.2.2.1.1.2.1 p hp, he.2.2.2.1.1.2.2⟩, he.2.2.2.1.2⟩
        refine k3 h24 z2 P f st g j x y _ (fr_t (fr_m (by decide) f1) (fr_m (by decide) f2)) ⟨n2, g2, x2, p2, he.2.2.2.2.1, m2, by rw [fr_fl f2 (by decide)]; exact he.2.2.2.2.2.2.1, fun hn i hi => by rw [fr_al f2 (by decide)]; exact he.2.2.2.2.2.2.2 hn i hi⟩ ?_ ?_ ?_ hj' rfl rfl rfl xw yh sS ⟨kx, q1, q2, q3, rfl⟩
        · rw [fr_fi f2 (by decide), fr_fi (k := 68) f2 (by decide)]; exact c1
        · rw [fr_fi f2 (by decide), fr_fi (k := 1478) f2 (by decide)]; exact c2
        · rw [fr_fl f2 (by decide)]
          rcases c3 with ⟨a, b⟩ | a
          · rw [a]; exact Or.inl ⟨rfl, b⟩
          · exact Or.inr a
      · rw [bi_0] at hh
        exact k2 h24 z' P f st g f1 he c1 c2 c3' ⟨j, hj', rfl⟩ hh
    · rw [i_eq jb (by omega)] at e
      omega
  refine sq_refresh4 hd hj hk hs h24 (fun a b => ⟨rfl, ?_⟩) (fun z' P f st g f1 he c1 c2 c3 => ⟨rfl, fin z' P f st g f1 he c1 c2 (Or.inr c3)⟩)
  obtain ⟨P, f, st, g, he⟩ := hc a b
  exact fin z P f st g fr_r he a b (Or.inl ⟨rfl, a, b⟩)
end KAT
