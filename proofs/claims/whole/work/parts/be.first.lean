/-! ===== unlike: whether a cover is the first of those alike ===== -/
section RIF
variable {w h : Nat} {S : Nat → Bool} {z : tq_S} {Q : tq_O → tq_S → Prop} {P K : Nat} {f : Nat → plc} {M Z : Nat → Nat}
def fsA (w h : Nat) (S : Nat → Bool) (P : Nat) (f : Nat → plc) (K : Nat) (M : Nat → Nat) (j : Nat) : Prop := ∀ m, m < 8 → Vf w h S P f K M j m = true → j ≤ acN w h S P f K M m j
theorem ac_0 (hd : jd w h false S) (hpl : plg S Z P f) (hn : fb_ct S 64 ≤ 24) {j : Nat} (hj : j < exn (fb_ct S 64) P f K M) : acN w h S P f K M 0 j = j := ((fix_ac hd hpl hn hj (by omega) (gok_0 hd)).mp (fun a ma => ⟨a, ma, imO_0 hd hpl (LL_P hpl hn hj ma)⟩)).2
theorem sq_isFirst {j : Nat} (hd : jd w h false S) (hjr : jr w h false S z) (hpl : plg S Z P f) (hn : fb_ct S 64 ≤ 24) (hr : rrow S P f z) (hP : P ≤ 3072) (hj : j < exn (fb_ct S 64) P f K M) (hB : ∀ c, c < 64 → ct (tq_fl z 3306) c = S c) (h3 : tq_fi z 3303 = nI (LL S P f K M j).length) (h8 : (LL S P f K M j).length ≤ 8) (h4 : ∀ k, k < (LL S P f K M j).length → tq_ai z 74 k = nI ((LL S P f K M j).getD k 0)) (k0 : ∀ z', fr FIm z z' → ¬ fsA w h S P f K M j → Q (.inl (some (.int 0))) z') (k1 : ∀ z', fr FIm z z' → fsA w h S P f K M j → Q (.inl (some (.int 1))) z') : wm_X12_isFirstOfAlike z Q := by
  have hw8 := hd.2.1
  have hh8 := hd.2.2.2.1
  obtain ⟨T, eT⟩ : ∃ T, T = if w = h then 8 else 4 := ⟨_, rfl⟩
  have T8 : T ≤ 8 ∧ 4 ≤ T ∧ (4 < T → w = h) ∧ (w = h → T = 8) := by
    by_cases u : w = h
    · rw [if_pos u] at eT
      exact ⟨by omega, by omega, fun _ => u, fun _ => eT⟩
    · rw [if_neg u] at eT
      exact ⟨by omega, by omega, fun e => absurd e (by omega), fun e => absurd e u⟩
  have all : (∀ t, 1 ≤ t → t < T → Vf w h S P f K M j (tmo t) = true → j ≤ acN w h S P f K M (tmo t) j) → fsA w h S P f K M j := by
    intro a m hm hv
    obtain ⟨q1, q2⟩ := rtm_m ⟨m, hm⟩
    have q1 : rtm m < 8 := q1
    have q2 : tmo (rtm m) = m := q2
    by_cases u : rtm m = 0
    · rw [u] at q2
      have q2 : 0 = m := q2
      rw [← q2, ac_0 hd hpl hn hj]
      exact Nat.le_refl _
    · by_cases v : rtm m < T
      · have := a (rtm m) (by omega) v
        rw [q2] at this
        exact this hv
      · have o := (tmo_b ⟨rtm m, q1⟩).2.mpr (by show 4 ≤ rtm m; omega)
        have o : tmo (rtm m) % 2 = 1 := o
        rw [q2] at o
        have gm := (grB_g hd (Vf_t.mp hv).1).2
        have := T8.2.2.2 ((gok_t.mp gm).1 o)
        omega
  unfold wm_X12_isFirstOfAlike wc_X12_isFirstOfAlike_4
  refine lp_inv (fun i s => ∃ z1 a, a < 2 ∧ s = (nI a, nI (i + 1), z1) ∧ fr FIm z z1 ∧ (a = 1 ↔ ∀ t, 1 ≤ t → t < i + 1 → Vf w h S P f K M j (tmo t) = true → j ≤ acN w h S P f K M (tmo t) j)) (T - 1) ?_ ⟨z, 1, by omega, rfl, fr_r, ⟨fun _ t t1 t2 => absurd t2 (by omega), fun _ => rfl⟩⟩
  rintro i s hi ⟨z1, a, a2, rfl, f1, ha⟩ B hBB
  simp only
  unfold wb_X12_isFirstOfAlike_4
  have j1 := jr_f f1 (by decide) (by decide) (by decide) (by decide) hjr
  rw [j1.1.1, j1.1.2.1, i_eq (by omega) (by omega)]
  have body : wc_X12_isFirstOfAlike_22 (fun b1 b2 z => B (b1, b2, z)) Q (nI a) (nI (i + 1)) (nI T) (nI (i + 1)) z1 := by
    unfold wc_X12_isFirstOfAlike_22
    have ret : (a = 1 → fsA w h S P f K M j) → (a = 0 → ¬ fsA w h S P f K M j) → tq_nz (nI a) ∧ Q (.inl (some (.int (nI a)))) z1 := by
      intro r1 r0
      rcases (show a = 0 ∨ a = 1 by omega) with e | e
      · subst e
        exact ⟨Or.inl rfl, k0 z1 f1 (r0 rfl)⟩
      · subst e
        exact ⟨Or.inr rfl, k1 z1 f1 (r1 rfl)⟩
    have r0 : a = 0 → ¬ fsA w h S P f K M j := fun e c => by
      have := ha.mpr (fun t t1 t2 hv => c _ (tmo_b ⟨t, by omega⟩).1 hv)
      omega
    rw [i_le (by omega) (by omega)]
    refine ⟨fun q => ret (fun e => all (fun t t1 t2 => ha.mp e t t1 (by omega))) r0, fun q => ?_⟩
    rw [i_0, i_eq (by omega) (by omega)]
    refine ⟨fun e => ret (fun e1 => absurd e (by omega)) r0, fun ne => ?_⟩
    have a1 : a = 1 := by omega
    have i7 : i + 1 < T := by omega
    have sq : 4 ≤ i + 1 → w = h := fun u => T8.2.2.1 (by omega)
    obtain ⟨m8, mo4⟩ := tmo_b ⟨i + 1, by omega⟩
    have m8 : tmo (i + 1) < 8 := m8
    have mo4 : tmo (i + 1) % 2 = 1 ↔ 4 ≤ i + 1 := mo4
    have hB1 : ∀ c, c < 64 → ct (tq_fl z1 3306) c = S c := fun c hc => by rw [fr_fl f1 (by decide)]; exact hB c hc
    have nx : ∀ z2 b, fr FIm z z2 → b < 2 → (b = 1 ↔ (Vf w h S P f K M j (tmo (i + 1)) = true → j ≤ acN w h S P f K M (tmo (i + 1)) j)) → wc_X12_isFirstOfAlike_60 (fun b1 b2 z => B (b1, b2, z)) Q (nI b) (nI (i + 1)) z2 := by
      intro z2 b f2 b2 hb
      unfold wc_X12_isFirstOfAlike_60
      intro v e
      rw [i_1, i_add] at e
      subst e
      refine hBB (by omega) _ ⟨z2, b, b2, rfl, f2, ?_⟩
      rw [hb]
      constructor
      · intro u t t1 t2
        by_cases e : t = i + 1
        · rw [e]; exact u
        · exact ha.mp a1 t t1 (by omega)
      · intro u
        exact u (i + 1) (by omega) (by omega)
    refine sq_goesAll (w := w) (h := h) (fun c hc => ?_) hw8 hh8 (by omega) sq j1.1.1 j1.1.2.1 (fun Y hY => ⟨_, rfl, ?_⟩)
    · have c64 : c < 64 := by
        refine Nat.lt_of_not_le fun u => ?_
        rw [ct_big u] at hc; cases hc
      rw [hB1 c c64] at hc
      exact (hd.2.2.2.2.2 c hc).2
    have bs := brd_same hd m8 (fun e => sq (mo4.mp e)) hB1 hY
    refine ⟨fun ne => ?_, fun e => ?_⟩
    · rw [a1]
      refine nx z1 1 f1 (by omega) ⟨fun _ hv => ?_, fun _ => rfl⟩
      exact absurd (bs.mpr (grB_g hd (Vf_t.mp hv).1).2) ne
    · have gm := bs.mp e
      have r1 := rrow_f f1 (by decide) (by decide) (by decide) (by decide) hr
      refine sq_isImageAhead hd j1 hpl hn r1 hP (by omega) sq gm hj hB1 (by rw [fr_fi f1 (by decide)]; exact h3) h8 (fun k hk => by rw [fr_ai f1 (by decide)]; exact h4 k hk) (fun z2 f2 nn => ⟨_, rfl, fun u => absurd rfl u, fun _ => ?_⟩) (fun z2 f2 yy => ⟨_, rfl, fun _ => ?_, fun u => absurd u (by decide +kernel)⟩)
      · unfold wc_X12_isFirstOfAlike_59
        refine nx z2 1 (fr_t f1 f2) (by omega) ⟨fun _ hv => ?_, fun _ => rfl⟩
        exact Nat.le_of_not_lt fun u => nn ⟨hv, u⟩
      · unfold wc_X12_isFirstOfAlike_59
        refine nx z2 0 (fr_t f1 f2) (by omega) ⟨fun e => absurd e (by omega), fun u => ?_⟩
        have := u yy.1
        omega
  refine ⟨fun u => ?_, fun u => ?_⟩
  · rw [if_neg u] at eT
    rw [eT] at body
    exact body
  · rw [if_pos u] at eT
    rw [eT] at body
    exact body
end RIF
