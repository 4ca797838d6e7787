/-! ===== what holds of class and reference between two calls ===== -/
section JNT
variable {w h : Nat} {r : Bool} {S : Nat → Bool} {z z' : tq_S} {F : List (Nat × Nat)} {kN n : Nat} {C M Z : Nat → Nat} {A : Nat → Int64} {T : Int64} {P : Nat} {f : Nat → plc} {st : Nat → Nat} {g0 : Nat}
def sp (v : Int32) (c : Nat) : Prop := v = -1 ∨ ∃ s, s ≤ c ∧ v = nI s
def jcov (w : Nat) (r : Bool) (S : Nat → Bool) (z : tq_S) : Prop := ∃ b p, tq_fi z 516 = bi b ∧ tq_fi z 3272 = bi b ∧ (b = true → cvo w r S p (tq_fl z 517) (tq_fl z 518) ∧ rto w r S (fun _ => false) p (tq_ai z 56))
def jkep (w : Nat) (r : Bool) (S : Nat → Bool) (z : tq_S) : Prop := ∃ b p, tq_fi z 519 = bi b ∧ tq_fi z 3274 = bi b ∧ (b = true → cvo w r S p (tq_fl z 520) (tq_fl z 521) ∧ rto w r S (fun _ => false) p (tq_ai z 57))
def jund (w : Nat) (r : Bool) (S : Nat → Bool) (z : tq_S) : Prop := ∃ u, u ≤ 10 ∧ tq_fi z 522 = nI u ∧ tq_fi z 3276 = nI u ∧ ∀ k, k < u → ∃ b p, tq_ai z 11 k = bi b ∧ tq_ai z 58 k = bi b ∧ (b = true → cvo w r S p (tq_al z 9 k) (tq_al z 10 k) ∧ rto w r S (fun _ => false) p (fun j => tq_ai z 59 (64 * k + j)))
def jtxt (z : tq_S) : Prop := ∃ l, ctx z l ∧ rt z l ∧ ∀ c, c ∈ l → c < 65536
def jS (n : Nat) (z : tq_S) : Prop := ∃ c d, c ≤ n ∧ d ≤ n ∧ tq_fi z 68 = nI c ∧ tq_fi z 1478 = nI d ∧ sp (tq_fi z 134) c ∧ sp (tq_fi z 135) c ∧ sp (tq_fi z 1220) c ∧ sp (tq_fi z 1807) c ∧ sp (tq_fi z 1808) d
def jfro (w h : Nat) (r : Bool) (S : Nat → Bool) (z : tq_S) : Prop := tq_fi z 134 = tq_fi z 68 → fro w h r S z
def jhav (w h : Nat) (r : Bool) (S : Nat → Bool) (z : tq_S) : Prop := tq_fi z 135 = tq_fi z 68 → hvt w h r S z ∧ hvz w h r S z
def jpr (w : Nat) (r : Bool) (S : Nat → Bool) (z : tq_S) : Prop := tq_fi z 1220 = tq_fi z 68 → ∃ m, PR w r S m z
def jexc (w h : Nat) (r : Bool) (S : Nat → Bool) (kN : Nat) (C M Z : Nat → Nat) (A : Nat → Int64) (z : tq_S) : Prop := tq_fi z 1807 = tq_fi z 68 → tq_fi z 1808 = tq_fi z 1478 → ∃ P f st g, exc w h r S kN C M Z A P f st g z ∧ (tq_fl z 1810 = -1 ∨ tq_fl z 1810 = lN (unl w h S P f kN M))
/-- the kinds' shapes come by motions of one, and none is another's -/
def kfam (kN : Nat) (C : Nat → Nat) (A : Nat → Int64) : Prop := (∀ k, k < kN → ∃ T, wS T ∧ hgp T ∧ 3 ≤ fb_ct (ct T) 64 ∧ fb_ct (ct T) 64 ≤ 6 ∧ ∀ i, i < C k → ∃ m, m < 8 ∧ nz (mo m (bsh T)) (A (8 * k + i))) ∧ ∀ k k' i i', k < kN → k' < kN → i < C k → i' < C k' → A (8 * k + i) = A (8 * k' + i') → k = k' ∧ i = i'
def jkin (kN : Nat) (C M Z : Nat → Nat) (A : Nat → Int64) (T : Int64) (z : tq_S) : Prop := kdc kN C M Z A z ∧ rdc kN C M A z ∧ shps kN C Z A ∧ tq_fl z 1476 = T ∧ tq_fl z 3289 = T ∧ wS T ∧ fb_ct (ct T) 64 ≤ 6 ∧ kfam kN C A
def jbrd (w h : Nat) (r : Bool) (S : Nat → Bool) (z : tq_S) : Prop := jd w h r S ∧ jc w h r S z ∧ jr w h r S z
def Jj (n w h : Nat) (r : Bool) (S : Nat → Bool) (kN : Nat) (C M Z : Nat → Nat) (A : Nat → Int64) (T : Int64) (z : tq_S) : Prop := jbrd w h r S z ∧ jcov w r S z ∧ jkep w r S z ∧ jund w r S z ∧ jtxt z ∧ jS n z ∧ jfro w h r S z ∧ jhav w h r S z ∧ jpr w r S z ∧ jexc w h r S kN C M Z A z ∧ jkin kN C M Z A T z
def J (n : Nat) (z : tq_S) : Prop := ∃ w h r S kN C M Z A T, Jj n w h r S kN C M Z A T z
theorem sp_m {v : Int32} {c d : Nat} (hcd : c ≤ d) (h : sp v c) : sp v d := by
  rcases h with h | ⟨s, h1, h2⟩
  · exact Or.inl h
  · exact Or.inr ⟨s, by omega, h2⟩
theorem sp_no {v : Int32} {c : Nat} (hc : c < 100000) (h : sp v c) : ¬ v = nI (c + 1) := by
  intro e
  rcases h with h | ⟨s, h1, h2⟩
  · rw [h] at e
    have := i_n0 (a := c + 1) (by omega)
    rw [← e] at this
    exact this (by decide)
  · rw [h2, i_eq (by omega) (by omega)] at e
    omega
theorem sp_e {v : Int32} {c : Nat} (h : v = nI c) : sp v c := Or.inr ⟨c, Nat.le_refl _, h⟩
theorem jbrd_f (g : fr F z z') (nn : ∀ x, x ∈ [(0, 64), (0, 65), (0, 66), (1, 67), (0, 3265), (0, 3266), (0, 3267), (2, 52)] → x ∉ F) (hh : jbrd w h r S z) : jbrd w h r S z' := ⟨hh.1, jc_f g (nn _ (by decide)) (nn _ (by decide)) (nn _ (by decide)) (nn _ (by decide)) hh.2.1, jr_f g (nn _ (by decide)) (nn _ (by decide)) (nn _ (by decide)) (nn _ (by decide)) hh.2.2⟩
theorem jcov_f (g : fr F z z') (nn : ∀ x, x ∈ [(0, 516), (0, 3272), (1, 517), (1, 518), (2, 56)] → x ∉ F) (hh : jcov w r S z) : jcov w r S z' := by
  unfold jcov
  rw [fr_fi g (nn (0, 516) (by decide)), fr_fi g (nn (0, 3272) (by decide)), fr_fl g (nn (1, 517) (by decide)), fr_fl g (nn (1, 518) (by decide)), fr_ai g (nn (2, 56) (by decide))]
  exact hh
theorem jkep_f (g : fr F z z') (nn : ∀ x, x ∈ [(0, 519), (0, 3274), (1, 520), (1, 521), (2, 57)] → x ∉ F) (hh : jkep w r S z) : jkep w r S z' := by
  unfold jkep
  rw [fr_fi g (nn (0, 519) (by decide)), fr_fi g (nn (0, 3274) (by decide)), fr_fl g (nn (1, 520) (by decide)), fr_fl g (nn (1, 521) (by decide)), fr_ai g (nn (2, 57) (by decide))]
  exact hh
theorem jund_f (g : fr F z z') (nn : ∀ x, x ∈ [(0, 522), (0, 3276), (2, 11), (2, 58), (3, 9), (3, 10), (2, 59)] → x ∉ F) (hh : jund w r S z) : jund w r S z' := by
  unfold jund
  rw [fr_fi g (nn (0, 522) (by decide)), fr_fi g (nn (0, 3276) (by decide)), fr_ai g (nn (2, 11) (by decide)), fr_ai g (nn (2, 58) (by decide)), fr_al g (nn (3, 9) (by decide)), fr_al g (nn (3, 10) (by decide)), fr_ai g (nn (2, 59) (by decide))]
  exact hh
theorem ctx_f {l : List Nat} (g : fr F z z') (h1 : (0, 13) ∉ F) (h2 : (2, 50) ∉ F) (hh : ctx z l) : ctx z' l := by
  unfold ctx
  rw [fr_fi g h1, fr_ai g h2]
  exact hh
theorem rt_f {l : List Nat} (g : fr F z z') (h1 : (0, 3279) ∉ F) (h2 : (2, 60) ∉ F) (hh : rt z l) : rt z' l := by
  unfold rt
  rw [fr_fi g h1, fr_ai g h2]
  exact hh
theorem jtxt_f (g : fr F z z') (nn : ∀ x, x ∈ [(0, 13), (2, 50), (0, 3279), (2, 60)] → x ∉ F) (hh : jtxt z) : jtxt z' := by
  obtain ⟨l, a, b, c⟩ := hh
  exact ⟨l, ctx_f g (nn _ (by decide)) (nn _ (by decide)) a, rt_f g (nn _ (by decide)) (nn _ (by decide)) b, c⟩
theorem jS_f (g : fr F z z') (nn : ∀ x, x ∈ [(0, 68), (0, 1478), (0, 134), (0, 135), (0, 1220), (0, 1807), (0, 1808)] → x ∉ F) (hh : jS n z) : jS (n + 1) z' := by
  obtain ⟨c, d, h1, h2, h3⟩ := hh
  refine ⟨c, d, by omega, by omega, ?_⟩
  rw [fr_fi g (nn (0, 68) (by decide)), fr_fi g (nn (0, 1478) (by decide)), fr_fi g (nn (0, 134) (by decide)), fr_fi g (nn (0, 135) (by decide)), fr_fi g (nn (0, 1220) (by decide)), fr_fi g (nn (0, 1807) (by decide)), fr_fi g (nn (0, 1808) (by decide))]
  exact h3
/-- stamps that are as they were, or new -/
theorem jS_g (g : fr F z z') (n1 : (0, 68) ∉ F) (n2 : (0, 1478) ∉ F) (h1 : tq_fi z' 134 = tq_fi z 134 ∨ tq_fi z' 134 = tq_fi z 68) (h2 : tq_fi z' 135 = tq_fi z 135 ∨ tq_fi z' 135 = tq_fi z 68) (h3 : tq_fi z' 1220 = tq_fi z 1220 ∨ tq_fi z' 1220 = tq_fi z 68) (h4 : tq_fi z' 1807 = tq_fi z 1807 ∨ tq_fi z' 1807 = tq_fi z 68) (h5 : tq_fi z' 1808 = tq_fi z 1808 ∨ tq_fi z' 1808 = tq_fi z 1478) (hh : jS n z) : jS (n + 1) z' := by
  obtain ⟨c, d, a1, a2, a3, a4, a5, a6, a7, a8, a9⟩ := hh
  have key : ∀ (v v' u : Int32) (c : Nat), u = nI c → sp v c → (v' = v ∨ v' = u) → sp v' c := by
    intro v v' u c e s h
    rcases h with h | h
    · rw [h]; exact s
    · rw [h]; exact sp_e e
  exact ⟨c, d, by omega, by omega, by rw [fr_fi g n1]; exact a3, by rw [fr_fi g n2]; exact a4, key _ _ _ c a3 a5 h1, key _ _ _ c a3 a6 h2, key _ _ _ c a3 a7 h3, key _ _ _ c a3 a8 h4, key _ _ _ d a4 a9 h5⟩
theorem jfro_f (g : fr F z z') (nn : ∀ x, x ∈ [(0, 134), (0, 68), (3, 3)] → x ∉ F) (hh : jfro w h r S z) : jfro w h r S z' := by
  unfold jfro
  rw [fr_fi g (nn (0, 134) (by decide)), fr_fi g (nn (0, 68) (by decide))]
  exact fun e => fro_f g (nn _ (by decide)) (hh e)
theorem jhav_f (g : fr F z z') (nn : ∀ x, x ∈ [(0, 135), (0, 68), (3, 7)] → x ∉ F) (hh : jhav w h r S z) : jhav w h r S z' := by
  unfold jhav hvt hvz
  rw [fr_fi g (nn (0, 135) (by decide)), fr_fi g (nn (0, 68) (by decide)), fr_al g (nn (3, 7) (by decide))]
  exact hh
theorem jpr_f (g : fr F z z') (nn : ∀ x, x ∈ [(0, 1220), (0, 68), (1, 1221), (1, 1222), (1, 1223)] → x ∉ F) (hh : jpr w r S z) : jpr w r S z' := by
  unfold jpr PR
  rw [fr_fi g (nn (0, 1220) (by decide)), fr_fi g (nn (0, 68) (by decide)), fr_fl g (nn (1, 1221) (by decide)), fr_fl g (nn (1, 1222) (by decide)), fr_fl g (nn (1, 1223) (by decide))]
  exact hh
def PEx : List (Nat × Nat) := [(0, 1804), (2, 31), (2, 32), (0, 1806), (2, 33), (3, 29), (2, 30), (0, 1805), (3, 34), (3, 35), (1, 1809), (3, 36), (1, 1810)]
theorem exc_f (g : fr F z z') (nn : ∀ x, x ∈ PEx → x ∉ F) (hx : exc w h r S kN C M Z A P f st g0 z) : exc w h r S kN C M Z A P f st g0 z' := by
  obtain ⟨a, ⟨b1, b2, b3, b4⟩, c, ⟨⟨d1, d2, d3⟩, d4⟩, e, m, t, o⟩ := hx
  refine ⟨cnm_f g (nn _ (by decide)) (nn _ (by decide)) (nn _ (by decide)) a, ⟨by rw [fr_fi g (nn (0, 1806) (by decide))]; exact b1, b2, b3, fun m hm hg i hi => by rw [fr_ai g (nn (2, 33) (by decide))]; exact b4 m hm hg i hi⟩, exr_f g (nn _ (by decide)) (nn _ (by decide)) (nn _ (by decide)) c, ⟨⟨by rw [fr_fi g (nn (0, 1805) (by decide))]; exact d1, fun p hp => by rw [fr_al g (nn (3, 29) (by decide))]; exact d2 p hp, d3⟩, d4⟩, e, ?_, by rw [fr_fl g (nn (1, 1809) (by decide))]; exact t, fun n0 i hi => by rw [fr_al g (nn (3, 36) (by decide))]; exact o n0 i hi⟩
  unfold memo
  rw [fr_al g (nn (3, 34) (by decide)), fr_al g (nn (3, 35) (by decide))]
  exact m
theorem jexc_f (g : fr F z z') (nn : ∀ x, x ∈ PEx ++ [(0, 1807), (0, 1808), (0, 68), (0, 1478)] → x ∉ F) (hh : jexc w h r S kN C M Z A z) : jexc w h r S kN C M Z A z' := by
  unfold jexc
  rw [fr_fi g (nn (0, 1807) (by decide)), fr_fi g (nn (0, 68) (by decide)), fr_fi g (nn (0, 1808) (by decide)), fr_fi g (nn (0, 1478) (by decide)), fr_fl g (nn (1, 1810) (by decide))]
  intro e1 e2
  obtain ⟨P, f, st, g1, a, b⟩ := hh e1 e2
  exact ⟨P, f, st, g1, exc_f g (fun x hx => nn x (List.mem_append_left _ hx)) a, b⟩
theorem jkin_f (g : fr F z z') (nn : ∀ x, x ∈ [(0, 1477), (2, 25), (2, 26), (2, 27), (3, 24), (0, 3290), (2, 68), (2, 67), (3, 69), (1, 1476), (1, 3289)] → x ∉ F) (hh : jkin kN C M Z A T z) : jkin kN C M Z A T z' := by
  obtain ⟨a, b, c, d, e, i⟩ := hh
  exact ⟨kdc_f g (nn _ (by decide)) (nn _ (by decide)) (nn _ (by decide)) (nn _ (by decide)) (nn _ (by decide)) a, rdc_f g (nn _ (by decide)) (nn _ (by decide)) (nn _ (by decide)) (nn _ (by decide)) b, c, by rw [fr_fl g (nn (1, 1476) (by decide))]; exact d, by rw [fr_fl g (nn (1, 3289) (by decide))]; exact e, i⟩
def PJa : List (Nat × Nat) := [(0, 64), (0, 65), (0, 66), (1, 67), (0, 3265), (0, 3266), (0, 3267), (2, 52), (0, 516), (0, 3272), (1, 517), (1, 518), (2, 56), (0, 519), (0, 3274), (1, 520), (1, 521), (2, 57), (0, 522), (0, 3276), (2, 11), (2, 58), (3, 9), (3, 10), (2, 59), (0, 68), (0, 1478), (0, 134), (0, 135), (0, 1220), (0, 1807), (0, 1808), (3, 3), (3, 7), (1, 1221), (1, 1222), (1, 1223), (0, 1804), (2, 31), (2, 32), (0, 1806), (2, 33), (3, 29), (2, 30), (0, 1805), (3, 34), (3, 35), (1, 1809), (3, 36), (1, 1810), (0, 1477), (2, 25), (2, 26), (2, 27), (3, 24), (0, 3290), (2, 68), (2, 67), (3, 69), (1, 1476), (1, 3289)]
theorem PJa_s {L : List (Nat × Nat)} (hL : ∀ x, x ∈ L → x ∈ PJa) (nn : ∀ x, x ∈ PJa → x ∉ F) : ∀ x, x ∈ L → x ∉ F := fun x hx => nn x (hL x hx)
/-- all but the text is as it was -/
theorem Jj_t (g : fr F z z') (nn : ∀ x, x ∈ PJa → x ∉ F) (ht : jtxt z') (hh : Jj n w h r S kN C M Z A T z) : Jj (n + 1) w h r S kN C M Z A T z' := by
  obtain ⟨a, b, c, d, -, i, j, k, l, m, o⟩ := hh
  exact ⟨jbrd_f g (PJa_s (by decide) nn) a, jcov_f g (PJa_s (by decide) nn) b, jkep_f g (PJa_s (by decide) nn) c, jund_f g (PJa_s (by decide) nn) d, ht, jS_f g (PJa_s (by decide) nn) i, jfro_f g (PJa_s (by decide) nn) j, jhav_f g (PJa_s (by decide) nn) k, jpr_f g (PJa_s (by decide) nn) l, jexc_f g (PJa_s (by decide) nn) m, jkin_f g (PJa_s (by decide) nn) o⟩
theorem Jj_f (g : fr F z z') (nn : ∀ x, x ∈ PJa → x ∉ F) (n1 : ∀ x, x ∈ [(0, 13), (2, 50), (0, 3279), (2, 60)] → x ∉ F) (hh : Jj n w h r S kN C M Z A T z) : Jj (n + 1) w h r S kN C M Z A T z' := Jj_t g nn (jtxt_f g n1 hh.2.2.2.2.1) hh
end JNT
/-! ===== the law's own steps ===== -/
section GLU
variable {z z1 z2 z3 : tq_S} {G BAD : tq_S → Prop} {k v : Int32} {F F1 F3 : List (Nat × Nat)}
theorem gl_t (hk : ¬ k = 0) (e : tq_fi z 3264 = k) (g : G z) : wm_X12_thrown z (tq_wi fun r106 z105 => ((r106 = k → ((¬ k = 0 → G z105) ∧ (k = 0 → ((tq_al z105 87 (Int32.toNatClampNeg (0 : Int32)) = Int32.toInt64 v → G z105) ∧ (¬ tq_al z105 87 (Int32.toNatClampNeg (0 : Int32)) = Int32.toInt64 v → BAD z105))))) ∧ (¬ r106 = k → BAD z105))) := by
  unfold wm_X12_thrown
  exact ⟨_, rfl, fun _ => ⟨fun _ => g, fun h => absurd h hk⟩, fun h => absurd e h⟩
theorem gl_a (e : tq_fi z 3264 = 0) (o : tq_al z 87 (Int32.toNatClampNeg (0 : Int32)) = Int32.toInt64 v) (g : G z) : wm_X12_thrown z (tq_wi fun r106 z105 => ((r106 = (0 : Int32) → ((¬ (0 : Int32) = 0 → G z105) ∧ ((0 : Int32) = 0 → ((tq_al z105 87 (Int32.toNatClampNeg (0 : Int32)) = Int32.toInt64 v → G z105) ∧ (¬ tq_al z105 87 (Int32.toNatClampNeg (0 : Int32)) = Int32.toInt64 v → BAD z105))))) ∧ (¬ r106 = (0 : Int32) → BAD z105))) := by
  unfold wm_X12_thrown
  exact ⟨_, rfl, fun _ => ⟨fun _ => g, fun _ => ⟨fun _ => g, fun h => absurd o h⟩⟩, fun h => absurd e h⟩
theorem gl_o {x : Int64} (e2 : z2 = tq_sal z1 87 (vp_updL (tq_al z1 87) (Int32.toNatClampNeg (0 : Int32)) x)) (f : fr F z2 z3) (h : (3, 87) ∉ F) : tq_al z3 87 (Int32.toNatClampNeg (0 : Int32)) = x := by
  rw [fr_al f h, e2, rw_ale, rw_updL, if_pos rfl]
theorem gl_f {x : Int64} (e2 : z2 = tq_sal z1 87 (vp_updL (tq_al z1 87) (Int32.toNatClampNeg (0 : Int32)) x)) : fr [(3, 87)] z1 z2 := by
  rw [e2]; exact fr_sal (by decide) fr_r
theorem gl_c (f1 : fr F1 z z1) (f2 : fr [(3, 87)] z1 z2) (f3 : fr F3 z2 z3) : fr (F1 ++ [(3, 87)] ++ F3) z z3 := fr_t (fr_m (fun x hx => List.mem_append_left _ (List.mem_append_left _ hx)) f1) (fr_t (fr_m (fun x hx => List.mem_append_left _ (List.mem_append_right _ hx)) f2) (fr_m (fun x hx => List.mem_append_right _ hx) f3))
theorem gl_1 (f1 : fr F1 z z1) (f2 : fr [(3, 87)] z1 z2) : fr (F1 ++ [(3, 87)]) z z2 := fr_t (fr_m (fun x hx => List.mem_append_left _ hx) f1) (fr_m (fun x hx => List.mem_append_right _ hx) f2)
theorem gl_2 (f1 : fr F1 z z1) (f3 : fr F3 z1 z3) : fr (F1 ++ F3) z z3 := fr_t (fr_m (fun x hx => List.mem_append_left _ hx) f1) (fr_m (fun x hx => List.mem_append_right _ hx) f3)
theorem gl_g {K : Nat × (Nat → Int32)} {B : Int32 → tq_S → Prop} {Q : tq_O → tq_S → Prop} {a : Int32} (hh : B (a + 4) z) : wc_law_2748 K B Q a z := fun v e => by rw [e]; exact hh
end GLU
