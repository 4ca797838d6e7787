/-! ===== loops: the class's call ===== -/
section CLP
variable {w h : Nat} {r : Bool} {S : Nat → Bool} {z : tq_S} {Q : tq_O → tq_S → Prop}
/-- the class's table holds W, and cl loops are closed -/
def CT (N : Nat) (W : Nat → Nat) (cl : Nat) (z : tq_S) : Prop := (∃ K V, HT K V (tq_al z 45) ∧ ∀ t, wy N K V t = W t) ∧ tq_fl z 2692 = lN cl
theorem wy_pt {N j : Nat} {K V : Nat → Nat} (hj : j < N) : V j ≤ wy N K V (K j) := by
  have := fb_sm_part (fun i => if K i = K j then V i else 0) hj
  unfold wy
  rw [if_pos rfl] at this
  omega
theorem wy_tot {N M : Nat} {K V W : Nat → Nat} (hW : ∀ t, wy N K V t = W t) (hK : ∀ j, j < N → V j ≠ 0 → K j < M) : tot N V = fb_sm W M := by
  have e := wy_sum (g := fun _ => 1) hK
  have e1 : fb_sm (fun j => V j * 1) N = tot N V := fb_sm_cong (fun j _ => Nat.mul_one _)
  have e2 : fb_sm (fun s => wy N K V s * 1) M = fb_sm W M := fb_sm_cong (fun s _ => by rw [Nat.mul_one, hW])
  rw [← e1, ← e2]; exact e
theorem sq_turn34 {N x y cl : Nat} {W : Nat → Nat} {B21 B34 : Int32 → tq_S → Prop} (hN : N = 1024) (hd : jd w h r S) (hj : jc w h r S z) (hs : fb_ct S 64 ≤ 36) (hx : x < w) (hy : y < h) (hg : LG w S x y W) (ht : CT N W cl z) (kk : ∀ z', fr [(3, 44), (3, 45), (1, 2692)] z z' → CT N (lstp w h S x y W) (cl + lcl w h S x y W) z' → B34 (nI (x + 1)) z') : wb_X10_countLoops_34 B21 B34 Q (nI y) (nI x) z := by
  have hw8 := hd.2.1
  have hh8 := hd.2.2.2.1
  obtain ⟨⟨K, V, hT, hW⟩, hc⟩ := ht
  have inW : ∀ j, j < N → V j ≠ 0 → W (K j) ≠ 0 := fun j hj hv e => by
    have := wy_pt (K := K) (V := V) hj
    rw [hW, e] at this; omega
  have inM : ∀ j, j < N → V j ≠ 0 → K j < gw w := fun j hj hv => bal_gw (hg.1 _ (inW j hj hv)).1
  have tb : tot N V ≤ 2 ^ 36 := by
    rw [wy_tot hW inM]
    exact lg_b hg hs (by omega) (by omega)
  unfold wb_X10_countLoops_34
  rw [hj.1, i_le (by omega) (by omega)]
  refine ⟨fun q => absurd q (by omega), fun _ => ⟨by decide +kernel, by decide +kernel, by decide +kernel, by decide +kernel, by decide +kernel, fun z1 e1 => ?_⟩⟩
  have c0 : Int32.toNatClampNeg 0 = 0 := by decide +kernel
  have c1 : Int32.toNatClampNeg 1024 = 1024 := by decide +kernel
  rw [c0, c1] at e1
  have f1 : fr [(3, 44), (3, 45), (1, 2692)] z z1 := by rw [e1]; exact fr_sal (by decide) fr_r
  have a1 : ∀ j, j < 1024 → tq_al z1 44 j = tq_al z 45 j := fun j hj => by
    rw [e1, rw_ale]
    unfold va_cpy
    rw [if_pos (by omega), Nat.zero_add, Nat.sub_zero]
  refine fw_J7_fill_d0a16_r9 ⟨rfl, ?_⟩
  obtain ⟨z2, e2⟩ : ∃ z2, z2 = fl_l z1 45 0 1024 0 := ⟨_, rfl⟩
  rw [← e2]
  have f2 : fr [(3, 45)] z1 z2 := by rw [e2]; unfold fl_l; exact fr_sal (by decide) fr_r
  have a2 : ∀ j, j < 1024 → tq_al z2 45 j = 0 := fun j hj => by
    rw [e2]
    unfold fl_l
    rw [rw_ale, if_pos (by omega)]
  have a3 : tq_al z2 44 = tq_al z1 44 := fr_al f2 (by decide)
  have f12 : fr [(3, 44), (3, 45), (1, 2692)] z z2 := fr_t f1 (fr_m (by decide) f2)
  have c2 : tq_fl z2 2692 = lN cl := by rw [fr_fl f2 (by decide), e1]; exact hc
  refine sq_slots (K := K) (V := V) (K0 := fun _ => 0) (V0 := fun _ => 0) hN hw8 hh8 (jc_f f12 (by decide) (by decide) (by decide) (by decide) hj) (by omega) (by omega) (ht_same hT (fun j hj => by rw [a3, a1 j hj])) (fun q j hj hv => bal_up ((hg.1 _ (inW j (by omega) hv)).2 (Or.inl q)) hw8) (by omega) (ht_zero a2) (tot_zero N) (wy_zero N) c2 (fun K' V' z3 f3 t1 t2 t3 t4 => ?_)
  refine kk z3 (fr_t f12 (fr_m (by decide) f3)) ⟨⟨K', V', t1, fun t => ?_⟩, ?_⟩
  · rw [t3]
    have e := wy_sum (g := fun s => (trB w h S x y (if x = 0 then 4 * s else s)).count t) inM
    have e' : fb_sm (fun s => wy N K V s * (trB w h S x y (if x = 0 then 4 * s else s)).count t) (gw w) = lstp w h S x y W t := fb_sm_cong (fun s _ => by rw [hW])
    rw [← e', ← e]; rfl
  · rw [t4]
    have e := wy_sum (g := fun s => cloB w h S x y (if x = 0 then 4 * s else s)) inM
    have e' : fb_sm (fun s => wy N K V s * cloB w h S x y (if x = 0 then 4 * s else s)) (gw w) = lcl w h S x y W := fb_sm_cong (fun s _ => by rw [hW])
    rw [← e', ← e]; rfl
theorem sq_countLoops (hd : jd w h r S) (hj : jc w h r S z) (hs : fb_ct S 64 ≤ 36) (kk : ∀ z', fr [(3, 44), (3, 45), (1, 2692)] z z' → Q (.inl (some (.long (lN (call w h S h))))) z') : wm_X10_countLoops z Q := by
  have hw1 := hd.1
  have hw8 := hd.2.1
  have hh8 := hd.2.2.2.1
  obtain ⟨N, hN⟩ : ∃ N : Nat, N = 1024 := ⟨_, rfl⟩
  unfold wm_X10_countLoops
  refine fw_J7_fill_d0a16_r9 ⟨rfl, ?_⟩
  obtain ⟨z1, e1⟩ : ∃ z1, z1 = fl_l z 45 0 1024 0 := ⟨_, rfl⟩
  rw [← e1]
  have f1 : fr [(3, 45)] z z1 := by rw [e1]; unfold fl_l; exact fr_sal (by decide) fr_r
  have a1 : ∀ j, j < 1024 → tq_al z1 45 j = 0 := fun j hj => by
    rw [e1]
    unfold fl_l
    rw [rw_ale, if_pos (by omega)]
  show wm_X10_add (nI 0) (lN 1) z1 _
  refine sq_loopAdd hN (ht_zero a1) (bal_0 _) (by omega) (by rw [tot_zero]; omega) (fun K V z2 f2 t1 t2 t3 => ⟨rfl, fun z3 e3 => ?_⟩)
  have f3 : fr [(3, 44), (3, 45), (1, 2692)] z z3 := by
    rw [e3]; exact fr_sfl (by decide) (fr_m (by decide) (fr_t f1 f2))
  have t0 : CT N (lall w h S 0) (call w h S 0) z3 := by
    refine ⟨⟨K, V, ?_, fun t => ?_⟩, ?_⟩
    · rw [e3]; exact t1
    · rw [t3, wy_zero, Nat.zero_add]; rfl
    · rw [e3, rw_fle]; rfl
  unfold wc_X10_countLoops_21
  refine lp_inv (fun y st => ∃ z4, st = (nI y, z4) ∧ fr [(3, 44), (3, 45), (1, 2692)] z z4 ∧ CT N (lall w h S y) (call w h S y) z4) h ?_ ⟨z3, rfl, f3, t0⟩
  rintro y st hy ⟨z4, rfl, f4, t4⟩ B hB
  simp only
  unfold wb_X10_countLoops_21
  have j4 := jc_f f4 (by decide) (by decide) (by decide) (by decide) hj
  rw [j4.2.1, i_le (by omega) (by omega)]
  refine ⟨fun q => ?_, fun q => ?_⟩
  · have : y = h := by omega
    subst this
    unfold wc_X10_countLoops_151
    rw [t4.2]
    exact kk z4 f4
  · have hy1 : y < h := by omega
    have gy := lall_in hd y (by omega)
    unfold wc_X10_countLoops_34
    refine lp_inv (fun x st => ∃ z5, st = (nI x, z5) ∧ fr [(3, 44), (3, 45), (1, 2692)] z z5 ∧ CT N (lrow w h S y (lall w h S y) x) (crow w h S y (lall w h S y) (call w h S y) x) z5) w ?_ ⟨z4, rfl, f4, t4⟩
    rintro x st hx ⟨z5, rfl, f5, t5⟩ B2 hB2
    simp only
    have j5 := jc_f f5 (by decide) (by decide) (by decide) (by decide) hj
    by_cases q2 : x = w
    · subst q2
      unfold wb_X10_countLoops_34
      rw [j5.1, i_le (by omega) (by omega)]
      refine ⟨fun _ => ?_, fun q3 => absurd (Nat.le_refl x) q3⟩
      unfold wc_X10_countLoops_145
      intro v e
      rw [i_1, i_add] at e
      subst e
      exact hB hy1 _ ⟨z5, rfl, f5, t5⟩
    · exact sq_turn34 hN hd j5 hs (by omega) hy1 (lrow_in hd hy1 gy x (by omega)) t5 (fun z6 f6 t6 => hB2 (by omega) _ ⟨z6, rfl, fr_t f5 f6, t6⟩)
theorem sc_loops (hd : jd w h r S) (hj : jc w h r S z) (k0 : (36 < fb_ct S 64 ∨ r = true) → Q (.inr 4) z) (k1 : fb_ct S 64 ≤ 36 → r = false → ∀ z', fr ([(3, 44), (3, 45), (1, 2692)] ++ FT) z z' → ctx z' (tn false (call w h S h)) → Q (.inl (some (.int (nI (tn false (call w h S h)).length)))) z') : wm_X11_loops z Q := by
  have hh8 := hd.2.2.2.1
  unfold wm_X11_loops
  have b64 := fb_ct_le S 64
  refine sq_size hj ⟨_, rfl, ?_⟩
  dsimp only
  rw [show (36 : Int32) = nI 36 from rfl, i_lt (by omega) (by omega)]
  refine ⟨fun q => ?_, fun q => ⟨fun q2 => ?_, fun q2 => ?_⟩⟩
  · unfold wc_X11_loops_22
    exact k0 (Or.inl q)
  · rw [hj.2.2.1, bi_0] at q2
    have cb := call_b hd (by omega : fb_ct S 64 ≤ 36) h (Nat.le_refl _)
    refine sq_countLoops hd hj (by omega) (fun z1 f1 => ⟨_, rfl, ?_⟩)
    refine sq_say (neg := false) (by omega) (fun q => (by cases q)) (fun z2 f2 t2 => ⟨_, rfl, k1 (by omega) q2 z2 (fr_t (fr_m (by decide) f1) (fr_m (by decide) f2)) t2⟩)
  · unfold wc_X11_loops_22
    rw [hj.2.2.1, bi_n] at q2
    exact k0 (Or.inr q2)
end CLP
