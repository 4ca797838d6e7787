/-! ===== unlike: whether an image is ahead ===== -/
section RIB
variable {w h : Nat} {S : Nat → Bool} {z : tq_S} {Q : tq_O → tq_S → Prop} {P K : Nat} {f : Nat → plc} {M Z : Nat → Nat}
def FIm : List (Nat × Nat) := [(3, 76), (2, 77)]
theorem sq_isImageAhead {t j : Nat} (hd : jd w h false S) (hjr : jr w h false S z) (hpl : plg S Z P f) (hn : fb_ct S 64 ≤ 24) (hr : rrow S P f z) (hP : P ≤ 3072) (ht : t < 8) (hsq : 4 ≤ t → w = h) (hg : gok w h S (tmo t) = true) (hj : j < exn (fb_ct S 64) P f K M) (hB : ∀ c, c < 64 → ct (tq_fl z 3306) c = S c) (h3 : tq_fi z 3303 = nI (LL S P f K M j).length) (h8 : (LL S P f K M j).length ≤ 8) (h4 : ∀ k, k < (LL S P f K M j).length → tq_ai z 74 k = nI ((LL S P f K M j).getD k 0)) (k0 : ∀ z', fr FIm z z' → ¬ (Vf w h S P f K M j (tmo t) = true ∧ acN w h S P f K M (tmo t) j < j) → Q (.inl (some (.int 0))) z') (k1 : ∀ z', fr FIm z z' → (Vf w h S P f K M j (tmo t) = true ∧ acN w h S P f K M (tmo t) j < j) → Q (.inl (some (.int 1))) z') : wm_X12_isImageAhead (nI t) z Q := by
  have hw8 := hd.2.1
  have hh8 := hd.2.2.2.1
  have m8 := (tmo_b ⟨t, ht⟩).1
  obtain ⟨m, em⟩ : ∃ m, m = tmo t := ⟨_, rfl⟩
  have m8 : m < 8 := by rw [em]; exact m8
  rw [← em] at hg k0 k1
  have mem : ∀ a, a ∈ LL S P f K M j ↔ ∃ k, k < (LL S P f K M j).length ∧ (LL S P f K M j).getD k 0 = a := fun a => cmp_len
  obtain ⟨d, ed⟩ : ∃ d, d = (LL S P f K M j).length := ⟨_, rfl⟩
  have h8' : d ≤ 8 := by rw [ed]; exact h8
  unfold wm_X12_isImageAhead wc_X12_isImageAhead_2
  refine lp_inv (fun i s => ∃ z1, s = (nI i, z1) ∧ fr FIm z z1 ∧ ∀ k, k < i → exP S (img w h S m (f ((LL S P f K M j).getD k 0)).2.2.1) (tq_al z1 76 k) ∧ tq_ai z1 77 k = nI (f ((LL S P f K M j).getD k 0)).2.1 ∧ ∃ q, imP w h S P f m ((LL S P f K M j).getD k 0) q) d ?_ ⟨z, rfl, fr_r, fun k hk => absurd hk (Nat.not_lt_zero _)⟩
  rintro i s hi ⟨z1, rfl, f1, inv⟩ B hBB
  simp only
  unfold wb_X12_isImageAhead_2
  have r1 := rrow_f f1 (by decide) (by decide) (by decide) (by decide) hr
  rw [fr_fi f1 (by decide), h3, ← ed, i_le (by omega) (by omega)]
  refine ⟨fun q => ?_, fun q => ?_⟩
  · have ei : i = d := by omega
    rw [ei, ed] at inv
    have hv : Vf w h S P f K M j m = true := Vf_t.mpr ⟨grB_y m8 hg, fun a ma => by
      obtain ⟨k, k1, k2⟩ := (mem a).mp ma
      obtain ⟨_, _, e⟩ := inv k k1
      rw [k2] at e
      exact e⟩
    exact sq_imCells hd hpl hn r1 hP m8 hj hv (fun c hc => by rw [fr_fl f1 (by decide)]; exact hB c hc) (by rw [fr_fi f1 (by decide)]; exact h3) h8 (fun k hk => by rw [fr_ai f1 (by decide)]; exact h4 k hk) (fun k hk => ⟨(inv k hk).1, (inv k hk).2.1⟩) (fun u => k0 z1 f1 fun e => u e.2) (fun u => k1 z1 f1 ⟨hv, u⟩)
  have id : i < d := by omega
  obtain ⟨a, ea⟩ : ∃ a, a = (LL S P f K M j).getD i 0 := ⟨_, rfl⟩
  have aL : a ∈ LL S P f K M j := (mem a).mpr ⟨i, by omega, ea.symm⟩
  have aP := LL_P hpl hn hj aL
  have a74 : ∀ z2, fr FIm z z2 → tq_ai z2 74 i = nI a := fun z2 g => by rw [fr_ai g (by decide), h4 i (by omega), ea]
  obtain ⟨x1, x2, x3⟩ := r1.2.1 a aP
  obtain ⟨c1, c2, c3, c4, c5, c6⟩ := r1.2.2.1 a aP
  rw [i_cl (by omega), a74 z1 f1, i_cl (by omega)]
  have j1 := jr_f f1 (by decide) (by decide) (by decide) (by decide) hjr
  refine ⟨i_in (by omega) (by omega), i_in (by omega) (by omega), sq_goesAll (w := w) (h := h) (fun c hc => ?_) hw8 hh8 ht hsq j1.1.1 j1.1.2.1 (fun Y hY => ⟨_, rfl, i_in (by omega) (by omega), ?_⟩)⟩
  · have c64 : c < 64 := by
      refine Nat.lt_of_not_le fun u => ?_
      rw [ct_big u] at hc; cases hc
    rw [x1 c c64, Bool.and_eq_true] at hc
    exact (hd.2.2.2.2.2 c hc.1).2
  rw [← em] at hY
  have yI := exP_img hd m8 hg x1 hY
  intro z3 e3
  have f3 : fr FIm z z3 := by rw [e3]; exact fr_sal (by decide) f1
  have a76 : ∀ k, tq_al z3 76 k = if k = i then Y else tq_al z1 76 k := fun k => by rw [e3, rw_ale, rw_updL]
  have a77 : tq_ai z3 77 = tq_ai z1 77 := by rw [e3]; rfl
  have r3 := rrow_f f3 (by decide) (by decide) (by decide) (by decide) hr
  rw [a74 z3 f3, i_cl (a := a) (by omega), (r3.2.1 a aP).2.1]
  refine ⟨i_in (by omega) (by omega), i_in (by omega) (by omega), i_in (by omega) (by omega), fun z4 e4 => ⟨i_in (by omega) (by omega), ?_⟩⟩
  have f4 : fr FIm z z4 := by rw [e4]; exact fr_sai (by decide) f3
  have b77 : ∀ k, tq_ai z4 77 k = if k = i then nI (f a).2.1 else tq_ai z1 77 k := fun k => by rw [e4, rw_aie, rw_upd, a77]
  have b76 : ∀ k, tq_al z4 76 k = if k = i then Y else tq_al z1 76 k := fun k => by rw [← a76, e4]; rfl
  rw [b77, if_pos rfl]
  have r4 := rrow_f f4 (by decide) (by decide) (by decide) (by decide) hr
  refine sq_isPlace r4 hP yI (img_lt hd hg) c2 (fun no => ⟨_, rfl, fun u => absurd rfl u, fun _ => k0 z4 f4 fun e => no ?_⟩) (fun ye => ⟨_, rfl, fun _ => ?_, fun u => absurd u (by decide +kernel)⟩)
  · obtain ⟨q, hq⟩ := (Vf_t.mp e.1).2 a aL
    exact ⟨q, hq⟩
  · intro v e
    rw [i_1, i_add] at e
    subst e
    refine hBB id _ ⟨z4, rfl, f4, fun k hk => ?_⟩
    rw [b76, b77]
    by_cases u : k = i
    · subst u
      rw [if_pos rfl, if_pos rfl, ← ea]
      exact ⟨yI, rfl, ye⟩
    · rw [if_neg u, if_neg u]
      exact inv k (by omega)
end RIB
