section SN3
variable {w h : Nat} {r : Bool} {S : Nat → Bool} {z : tq_S} {Q : tq_O → tq_S → Prop} {K P : Nat} {C M Z : Nat → Nat} {A : Nat → Int64} {f : Nat → plc} {st : Nat → Nat} {g0 : Nat}
theorem exc_k2 {F : List (Nat × Nat)} {z' : tq_S} (g : fr F z z') (hF : ∀ x, x ∈ F → x = (3, 34) ∨ x = (3, 35) ∨ x = (2, 37) ∨ x = (0, 1803)) (hx : exc w h r S K C M Z A P f st g0 z) (hm : memo (VV (fb_ct S 64) P f (TT w h S K Z P f) WW) (GG w h S) z') : exc w h r S K C M Z A P f st g0 z' := by
  have no : ∀ x, x ≠ (3, 34) → x ≠ (3, 35) → x ≠ (2, 37) → x ≠ (0, 1803) → x ∉ F := fun x a b c d m => by
    rcases hF x m with e | e | e | e
    · exact a e
    · exact b e
    · exact c e
    · exact d e
  obtain ⟨a, ⟨b1, b2, b3, b4⟩, c, ⟨⟨d1, d2, d3⟩, d4⟩, e, _, t, o⟩ := hx
  refine ⟨cnm_f g (no _ (by decide) (by decide) (by decide) (by decide)) (no _ (by decide) (by decide) (by decide) (by decide)) (no _ (by decide) (by decide) (by decide) (by decide)) a, ⟨by rw [fr_fi g (no _ (by decide) (by decide) (by decide) (by decide))]; exact b1, b2, b3, fun m hm hg i hi => by rw [fr_ai g (no _ (by decide) (by decide) (by decide) (by decide))]; exact b4 m hm hg i hi⟩, exr_f g (no _ (by decide) (by decide) (by decide) (by decide)) (no _ (by decide) (by decide) (by decide) (by decide)) (no _ (by decide) (by decide) (by decide) (by decide)) c, ⟨⟨by rw [fr_fi g (no _ (by decide) (by decide) (by decide) (by decide))]; exact d1, fun p hp => by rw [fr_al g (no _ (by decide) (by decide) (by decide) (by decide))]; exact d2 p hp, d3⟩, d4⟩, e, hm, by rw [fr_fl g (no _ (by decide) (by decide) (by decide) (by decide))]; exact t, fun n0 i hi => by rw [fr_al g (no _ (by decide) (by decide) (by decide) (by decide))]; exact o n0 i hi⟩
theorem sn_exact (hd : jd w h r S) (hj : jc w h r S z) (hk : kdc K C M Z A z) (hs : shps K C Z A) (hT : fb_ct S 64 ≤ 24 → ∀ P f st g z', exc w h r S K C M Z A P f st g z' → exn (fb_ct S 64) P f K M < 2147483648) (hc : tq_fi z 1807 = tq_fi z 68 → tq_fi z 1808 = tq_fi z 1478 → ∃ P f st g, exc w h r S K C M Z A P f st g z ∧ (tq_fl z 1810 = -1 ∨ tq_fl z 1810 = lN (unl w h S P f K M))) (k0 : 24 < fb_ct S 64 → Q (.inl (some (.int 1))) z) (k1 : fb_ct S 64 ≤ 24 → ∀ z' P f st g, fr (FRf ++ FCh) z z' → exc w h r S K C M Z A P f st g z' → tq_fi z' 1807 = tq_fi z' 68 → tq_fi z' 1808 = tq_fi z' 1478 → (tq_fl z' 1810 = -1 ∨ tq_fl z' 1810 = lN (unl w h S P f K M)) → Q (.inl (some (.int 1))) z') : wm_X11_exactIsSound z Q := by
  have hM : ∀ j, j < K → M j ≤ 8 := fun j hj => (hk.2.2 j hj).2.1.2
  have hZ : ∀ k, k < K → 3 ≤ Z k := fun k hk' => (hk.2.2 k hk').2.2.1.2.1
  have b64 := fb_ct_le S 64
  unfold wm_X11_exactIsSound
  refine sq_size hj ⟨_, rfl, ?_⟩
  dsimp only
  rw [show (24 : Int32) = nI 24 from rfl, i_le (by omega) (by omega)]
  refine ⟨fun h24 => ?_, fun h24 => k0 (by omega)⟩
  have fin : ∀ z1 P f st g, fr FRf z z1 → exc w h r S K C M Z A P f st g z1 → tq_fi z1 1807 = tq_fi z1 68 → tq_fi z1 1808 = tq_fi z1 1478 → (tq_fl z1 1810 = -1 ∨ tq_fl z1 1810 = lN (unl w h S P f K M)) → wc_X11_exactIsSound_23 Q 0 z1 := by
    intro z1 P f st g f1 he c1 c2 c3
    have k1 := k1 h24
    have xT := hT h24 P f st g z1 he
    have pl := prs_plg hd hs h24 hZ he.2.2.2.1
    have kz : kdc K C M Z A z1 := kdc_f f1 (by decide) (by decide) (by decide) (by decide) (by decide) hk
    have tot := he.2.2.2.2.2.2.1
    rw [VV_bg pl (fun p hp => (he.2.2.2.1.2 p hp).1) hk.2.1 hM h24] at tot
    obtain ⟨X, eX⟩ : ∃ X, X = exn (fb_ct S 64) P f K M := ⟨_, rfl⟩
    rw [← eX] at tot xT
    unfold wc_X11_exactIsSound_23
    refine lp_inv (fun i s => ∃ z2, s = (nI i, z2) ∧ fr FCh z1 z2 ∧ memo (VV (fb_ct S 64) P f (TT w h S K Z P f) WW) (GG w h S) z2) 13 ?_ ⟨z1, rfl, fr_r, he.2.2.2.2.2.1⟩
    rintro i s hi ⟨z2, rfl, f2, m2⟩ B hB
    simp only
    have he2 := exc_k2 f2 (by decide) he m2
    have out : Q (.inl (some (.int 1))) z2 := k1 z2 P f st g (fr_t (fr_m (by decide) f1) (fr_m (by decide) f2)) he2 (by rw [fr_fi f2 (by decide), fr_fi (k := 68) f2 (by decide)]; exact c1) (by rw [fr_fi f2 (by decide), fr_fi (k := 1478) f2 (by decide)]; exact c2) (by rw [fr_fl f2 (by decide)]; exact c3)
    unfold wb_X11_exactIsSound_23
    rw [i_12, i_lt (by omega) (by omega), fr_fl f2 (by decide), tot, l_le0 (by omega)]
    refine ⟨fun _ => out, fun q => ⟨fun _ => out, fun q2 v ev => ?_⟩⟩
    have j0 : (X - 1) * i / 12 < X := by
      have h1 : (X - 1) * i ≤ (X - 1) * 12 := Nat.mul_le_mul_left _ (by omega)
      omega
    have mb : (X - 1) * i ≤ (X - 1) * 12 := Nat.mul_le_mul_left _ (by omega)
    rw [l_1, l_sub (by omega), i_to (by omega), l_mul, show (12 : Int64) = lN 12 from rfl, l_divN (by omega) (by omega) (by omega)] at ev
    subst ev
    have k2 := kdc_f f2 (by decide) (by decide) (by decide) (by decide) (by decide) kz
    rw [eX] at j0 xT
    have g2 := sq_chooseE (Q := tq_wv fun z102 => wm_X4_chosenNumber z102 (tq_wl fun r104 z103 => ((r104 = lN ((X - 1) * i / 12) → ∀ v105 : Int32, v105 = nI i + 1 → (fun b1 z => B (b1, z)) v105 z103) ∧ (¬ r104 = lN ((X - 1) * i / 12) → Q (.inl (some (.int 0))) z103)))) hd k2 hs h24 he2 xT (by rw [← eX] at j0 ⊢; exact j0) (fun z3 f3 m3 c3' => ⟨rfl, ?_⟩)
    · exact g2
    have he3 := exc_k2 f3 (by decide) he2 m3
    have k3 := kdc_f f3 (by decide) (by decide) (by decide) (by decide) (by decide) k2
    refine sq_chosenNumber hd k3 hs h24 he3 (by rw [← eX] at j0 ⊢; exact j0) c3' (fun z4 f4 m4 => ⟨_, rfl, fun _ v e => ?_, fun ne => absurd rfl ne⟩)
    rw [i_1, i_add] at e
    subst e
    exact hB (by omega) _ ⟨z4, rfl, fr_t f2 (fr_t f3 (fr_m (by decide) f4)), m4⟩
  refine sq_refresh4 hd hj hk hs h24 (fun a b => ⟨rfl, ?_⟩) (fun z' P f st g f1 he c1 c2 c3 => ⟨rfl, fin z' P f st g f1 he c1 c2 (Or.inl c3)⟩)
  obtain ⟨P, f, st, g, he, c⟩ := hc a b
  exact fin z P f st g fr_r he a b c
end SN3
