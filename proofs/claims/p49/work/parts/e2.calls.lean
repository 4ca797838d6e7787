/-! ===== the law's wrappers, over what holds between two calls ===== -/
section GW
variable {c w h : Nat} {r : Bool} {S : Nat → Bool} {z : tq_S} {b bk : Bool} {p pk : Nat → Nat} {u : Nat} {g : Int32 → tq_S → Prop}
theorem bi_w {G : Int32 → Prop} {v : Bool} (k : G (bi v)) : (bi v = 0 → G 0) ∧ (¬ bi v = 0 → G 1) := by
  cases v
  · exact ⟨fun _ => k, fun e => absurd rfl e⟩
  · exact ⟨fun e => absurd e (by decide +kernel), fun _ => k⟩
theorem gA_cuo (hh : gA c w h r S b p bk pk u z) : cuo u b z := ⟨hh.2.2.2.1, hh.2.2.2.2.1, hh.2.2.2.2.2, hh.2.1.1⟩
/-- a call that takes a new cover -/
theorem gA_take {z' : tq_S} {q : Nat → Nat} {F : List (Nat × Nat)} (f : fr F z z') (nn : ∀ x, x ∈ PCx ++ PK ++ [(0, 135), (0, 1220), (3, 7), (1, 1221), (1, 1222), (1, 1223)] → x ∉ F) (hf : fro w h r S z' ∧ tq_fi z' 134 = tq_fi z' 68 ∨ (0, 134) ∉ F ∧ (3, 3) ∉ F) (hq : cvo w r S q (tq_fl z' 517) (tq_fl z' 518)) (h1 : tq_fi z' 516 = 1) (ut : utk u b z z') (hh : gA c w h r S b p bk pk u z) : gA c w h r S true q bk pk (ul u + 1) z' ∧ (b = true → gT w r S (ul u + 1) p z') := by
  have s : ∀ {L : List (Nat × Nat)}, (∀ x, x ∈ L → x ∈ PCx ++ PK ++ [(0, 135), (0, 1220), (3, 7), (1, 1221), (1, 1222), (1, 1223)]) → ∀ x, x ∈ L → x ∉ F := fun hL x hx => nn x (hL x hx)
  have e68 : tq_fi z' 68 = tq_fi z 68 := fr_fi f (nn _ (by decide))
  have hu10 := hh.2.2.2.2.1
  have lu : ul u + 1 ≤ 10 := by unfold ul; split <;> omega
  refine ⟨⟨gB_c f (s (by decide)) ?_ (Or.inl (fr_fi f (nn _ (by decide)))) (Or.inl (fr_fi f (nn _ (by decide)))) ?_ (jhav_f f (s (by decide)) hh.1.2.2.2.2.1) (jpr_f f (s (by decide)) hh.1.2.2.2.2.2) hh.1, ⟨h1, fun _ => hq⟩, gK_f f (s (by decide)) hh.2.2.1, ⟨ut.1, lu, fun k hk => ?_⟩⟩, fun hb => ⟨ul u, rfl, ?_, ?_⟩⟩
  · rcases hf with ⟨-, e⟩ | ⟨e, -⟩
    · exact Or.inr (e.trans e68)
    · exact Or.inl (fr_fi f e)
  · rcases hf with ⟨e, -⟩ | ⟨e1, e2⟩
    · exact fun _ => e
    · have hc := hh.1.2.2.2.1
      unfold jfro at hc ⊢
      rw [fr_fi f e1, e68]
      exact fun q => fro_f f e2 (hc q)
  · by_cases q : k < ul u
    · obtain ⟨y1, -, -⟩ := ut.2.1 k q
      obtain ⟨b', hb'⟩ := hh.2.2.2.2.2 (us u k) (by unfold us; unfold ul at q; split <;> split at q <;> omega)
      exact ⟨b', y1.trans hb'⟩
    · have ek : k = ul u := by omega
      subst ek
      exact ⟨b, ut.2.2.1⟩
  · rw [ut.2.2.1, hb]
  · rw [ut.2.2.2.1, ut.2.2.2.2]
    exact hh.2.1.2 hb
theorem sL_covers (hh : gA c w h r S b p bk pk u z) (k : ∀ z', gA c w h r S b p bk pk u z' → ctx z' (tn false (cv_T w r 0 S)) → g (nI (tn false (cv_T w r 0 S)).length) z') : wm_L_covers z (tq_wi g) := by
  unfold wm_L_covers
  refine sc_covers hh.1.2.1 hh.1.2.2.1 hh.1.2.2.2.1 (fun z' f fo e t => ⟨_, rfl, ⟨_, rfl, k z' ⟨?_, gV_f f (by decide) hh.2.1, gK_f f (by decide) hh.2.2.1, gU_f f (by decide) hh.2.2.2⟩ t⟩⟩)
  exact gB_c f (by decide) (Or.inr (e.trans (fr_fi f (by decide)))) (Or.inl (fr_fi f (by decide))) (Or.inl (fr_fi f (by decide))) (fun _ => fo) (jhav_f f (by decide) hh.1.2.2.2.2.1) (jpr_f f (by decide) hh.1.2.2.2.2.2) hh.1
theorem sL_bySigns (hh : gA c w h r S b p bk pk u z) (k0 : pln w h r S = false → g (-900001) z) (k1 : pln w h r S = true → ∀ z', gA c w h r S b p bk pk u z' → ctx z' (tn false (cv_T w r 0 S)) → g (nI (tn false (cv_T w r 0 S)).length) z') : wm_L_bySigns z (tq_wi g) := by
  unfold wm_L_bySigns
  refine sc_bySigns hh.1.2.1 hh.1.2.2.1 (fun e => Or.inr ⟨rfl, ⟨_, rfl, k0 ?_⟩⟩) (fun e z' f t => Or.inl ⟨_, rfl, ⟨_, rfl, k1 ?_ z' (gA_f f (by decide) hh) t⟩⟩)
  · rw [pln_f] at e
    simpa using e
  · rw [pln_f] at e
    simpa using e
theorem sL_having {X Y D : Int32} (hh : gA c w h r S b p bk pk u z) (k0 : (∀ x y o, ¬ pcn w h r S X Y D x y o) → g (-900001) z) (k1 : ∀ x y o, pcn w h r S X Y D x y o → ∀ z', gA c w h r S b p bk pk u z' → ctx z' (tn false (cv_T w r 0 (cv_rm S (8 * y + x) o))) → g (nI (tn false (cv_T w r 0 (cv_rm S (8 * y + x) o))).length) z') : wm_L_having X Y D z (tq_wi g) := by
  unfold wm_L_having
  refine sc_having3 hh.1.2.1 hh.1.2.2.1 hh.1.2.2.2.1 hh.1.2.2.2.2.1 (fun e => Or.inr ⟨rfl, ⟨_, rfl, k0 e⟩⟩) (fun x y o e z1 z' f1 f2 hv e135 hfo e134 t => Or.inl ⟨_, rfl, ⟨_, rfl, k1 x y o e z' ?_ t⟩⟩)
  have c68 : tq_fi z1 68 = tq_fi z 68 := fr_fi f1 (by decide)
  refine gA_f f2 (by decide) ⟨?_, gV_f f1 (by decide) hh.2.1, gK_f f1 (by decide) hh.2.2.1, gU_f f1 (by decide) hh.2.2.2⟩
  refine gB_c f1 (by decide) ?_ (Or.inr (e135.trans c68)) (Or.inl (fr_fi f1 (by decide))) hfo (fun _ => hv) (jpr_f f1 (by decide) hh.1.2.2.2.2.2) hh.1
  rcases e134 with e | e
  · exact Or.inl e
  · exact Or.inr (e.trans c68)
theorem sL_draw {a : Int64} (hh : gA c w h r S b p bk pk u z) (k0 : cv_T w r 0 S = 0 → ∀ z', gA c w h r S b p bk pk u z' → g (-900001) z') (k1 : 0 < cv_T w r 0 S → ∀ z', gA c w h r S true (ur w r 0 S (dm a (cv_T w r 0 S))) bk pk (ul u + 1) z' → g (nI (fb_ct S 64 / 2)) z') : wm_L_draw a z (tq_wi g) := by
  unfold wm_L_draw
  refine sc_draw hh.1.2.1 hh.1.2.2.1 hh.1.2.2.2.1 (gA_cuo hh) (fun e z' f fo e1 => Or.inr ⟨rfl, ⟨_, rfl, k0 e z' ⟨?_, gV_f f (by decide) hh.2.1, gK_f f (by decide) hh.2.2.1, gU_f f (by decide) hh.2.2.2⟩⟩⟩) (fun e z' f fo e1 hq h1 ut => Or.inl ⟨_, rfl, ⟨_, rfl, k1 e z' (gA_take f (by decide) (Or.inl ⟨fo, e1⟩) hq h1 ut hh).1⟩⟩)
  exact gB_c f (by decide) (Or.inr (e1.trans (fr_fi f (by decide)))) (Or.inl (fr_fi f (by decide))) (Or.inl (fr_fi f (by decide))) (fun _ => fo) (jhav_f f (by decide) hh.1.2.2.2.2.1) (jpr_f f (by decide) hh.1.2.2.2.2.2) hh.1
theorem sL_next (hh : gA c w h r S true p bk pk u z) (k1 : ∀ z', gA c w h r S true (ur w r 0 S (nxn (cv_T w r 0 S) (rk w r 0 S p))) bk pk (ul u + 1) z' → gT w r S (ul u + 1) p z' → g (bi (!decide (cv_T w r 0 S ≤ rk w r 0 S p + 1))) z') : wm_L_next z (tq_wi g) := by
  unfold wm_L_next
  refine sc_next hh.1.2.1 hh.1.2.2.1 hh.1.2.2.2.1 (gA_cuo hh) (fun e => hh.2.1.2 e) (fun e => by cases e) (fun e z' f fo e1 hq h1 ut => Or.inl ⟨_, rfl, ?_⟩)
  have t := gA_take f (by decide) (Or.inl ⟨fo, e1⟩) hq h1 ut hh
  exact bi_w (G := fun v => tq_wi g (.inl (some (.int v))) z') ⟨_, rfl, k1 z' t.1 (t.2 rfl)⟩
theorem sL_prev (hh : gA c w h r S true p bk pk u z) (k1 : ∀ z', gA c w h r S true (ur w r 0 S (pvn (cv_T w r 0 S) (rk w r 0 S p))) bk pk (ul u + 1) z' → gT w r S (ul u + 1) p z' → g (bi (!decide (rk w r 0 S p = 0))) z') : wm_L_previous z (tq_wi g) := by
  unfold wm_L_previous
  refine sc_prev hh.1.2.1 hh.1.2.2.1 hh.1.2.2.2.1 (gA_cuo hh) (fun e => hh.2.1.2 e) (fun e => by cases e) (fun e z' f fo e1 hq h1 ut => Or.inl ⟨_, rfl, ?_⟩)
  have t := gA_take f (by decide) (Or.inl ⟨fo, e1⟩) hq h1 ut hh
  exact bi_w (G := fun v => tq_wi g (.inl (some (.int v))) z') ⟨_, rfl, k1 z' t.1 (t.2 rfl)⟩
theorem sL_number (hh : gA c w h r S b p bk pk u z) (k0 : b = false → g (-900001) z) (k1 : b = true → ∀ z', fr ([(3, 3), (3, 4), (0, 134)] ++ FT) z z' → gA c w h r S b p bk pk u z' → ctx z' (tn false (rk w r 0 S p)) → g (nI (tn false (rk w r 0 S p)).length) z') : wm_L_number z (tq_wi g) := by
  unfold wm_L_number
  refine sc_number hh.1.2.1 hh.1.2.2.1 hh.1.2.2.2.1 hh.2.1.1 (fun e => hh.2.1.2 e) (fun e => Or.inr ⟨rfl, ⟨_, rfl, k0 e⟩⟩) (fun e z' f fo e1 t => Or.inl ⟨_, rfl, ⟨_, rfl, k1 e z' f ⟨?_, gV_f f (by decide) hh.2.1, gK_f f (by decide) hh.2.2.1, gU_f f (by decide) hh.2.2.2⟩ t⟩⟩)
  exact gB_c f (by decide) (Or.inr (e1.trans (fr_fi f (by decide)))) (Or.inl (fr_fi f (by decide))) (Or.inl (fr_fi f (by decide))) (fun _ => fo) (jhav_f f (by decide) hh.1.2.2.2.2.1) (jpr_f f (by decide) hh.1.2.2.2.2.2) hh.1
theorem sL_flips (hh : gA c w h r S b p bk pk u z) (k0 : b = false → g (-900001) z) (k1 : b = true → g (nI (fb_ct (fq w h r S p) 64)) z) : wm_L_flips z (tq_wi g) := by
  unfold wm_L_flips
  exact sc_flips hh.1.2.1 hh.1.2.2.1 hh.2.1.1 (fun e => hh.2.1.2 e) (fun e => Or.inr ⟨rfl, ⟨_, rfl, k0 e⟩⟩) (fun e => Or.inl ⟨_, rfl, ⟨_, rfl, k1 e⟩⟩)
theorem sL_flip {idx : Int32} (hh : gA c w h r S true p bk pk u z) (k1 : ¬ fidx (fq w h r S p) idx → g (-900002) z) (k2 : ∀ d, d < 64 → fq w h r S p d = true → idx = nI (fb_ct (fq w h r S p) d) → ∀ z', gA c w h r S true (pf w p d) bk pk (ul u + 1) z' → gT w r S (ul u + 1) p z' → g (nI (fb_ct (fq w h r S (pf w p d)) 64)) z') : wm_L_flip idx z (tq_wi g) := by
  unfold wm_L_flip
  refine sc_flip hh.1.2.1 hh.1.2.2.1 (gA_cuo hh) (fun e => hh.2.1.2 e) (fun e => by cases e) (fun _ e => Or.inr (Or.inr ⟨rfl, ⟨_, rfl, k1 e⟩⟩)) (fun _ d hd hq e z' f hv h1 ut => Or.inl ⟨_, rfl, ⟨_, rfl, ?_⟩⟩)
  have t := gA_take f (by decide) (Or.inr ⟨by decide, by decide⟩) hv h1 ut hh
  exact k2 d hd hq e z' t.1 (t.2 rfl)
theorem sL_undo {q : Nat → Nat} (hh : gA c w h r S b p bk pk u z) (ht : gT w r S u q z) (k1 : ∀ m z', u = m + 1 → gA c w h r S true q bk pk m z' → g (nI m) z') : wm_L_undo z (tq_wi g) := by
  obtain ⟨m, em, e1, e2⟩ := ht
  unfold wm_L_undo
  refine sc_undo hh.2.2.2.1 hh.2.2.2.2.1 hh.2.2.2.2.2 (fun e => by omega) (fun m' b' e hb z' f a1 a2 a3 a4 => Or.inl ⟨_, rfl, ⟨_, rfl, ?_⟩⟩)
  have e9 : m' = m := by omega
  subst e9
  have eb : bi b' = bi true := hb.symm.trans e1
  have hu := hh.2.2.2.2.1
  refine k1 m' z' e ⟨gB_f f (by decide) hh.1, ⟨by rw [a4, eb], fun _ => by rw [a2, a3]; exact e2⟩, gK_f f (by decide) hh.2.2.1, ⟨a1, by omega, fun k hk => ?_⟩⟩
  rw [fr_ai (k := 11) f (by decide)]
  exact hh.2.2.2.2.2 k (by omega)
theorem sL_cuts (hh : gA c w h r S true p bk pk u z) (k1 : g (nI (cutn w h r S p)) z) : wm_L_cuts z (tq_wi g) := by
  unfold wm_L_cuts
  exact sc_cuts hh.1.2.1 hh.1.2.2.1 hh.2.1.1 (fun e => hh.2.1.2 e) (fun e => by cases e) (fun e => Or.inl ⟨_, rfl, ⟨_, rfl, k1⟩⟩)
theorem sL_keep (hh : gA c w h r S true p bk pk u z) (k1 : ∀ z', gA c w h r S true p true p u z' → g (nI (cutn w h r S p)) z') : wm_L_keep z (tq_wi g) := by
  unfold wm_L_keep
  refine sc_keep hh.1.2.1 hh.1.2.2.1 hh.2.1.1 (fun e => hh.2.1.2 e) (fun e => by cases e) (fun e z' f e1 e2 e3 => Or.inl ⟨_, rfl, ⟨_, rfl, k1 z' ⟨gB_f f (by decide) hh.1, gV_f f (by decide) hh.2.1, ⟨e3, fun _ => ?_⟩, gU_f f (by decide) hh.2.2.2⟩⟩⟩)
  rw [e1, e2]
  exact hh.2.1.2 rfl
theorem sL_apart {G : (Nat → Nat) → Nat → Int} (hG : fam w h S G) (hp : pln w h r S = true) (hh : gA c w h r S true p true pk u z) (k1 : ∀ z', fr FHi z z' → gA c w h r S true p true pk u z' → g (nI (fb_sm (apS S (G p) (G pk)) 81 / 4)) z') : wm_L_apart z (tq_wi g) := by
  unfold wm_L_apart
  have c1 := hh.2.1.2 rfl
  have c2 := hh.2.2.1.2 rfl
  refine sc_apart (H := G p) (H' := G pk) hh.1.2.1 hh.1.2.2.1 hh.2.1.1 hh.2.2.1.1 (fun _ => c1) (fun _ => c2) (fun e _ => fam_use hG e c1.1) (fun e _ => fam_use hG e c2.1) (fun e => by rw [hp] at e; cases e) (fun _ e => by cases e) (fun _ _ _ z' f => Or.inl ⟨_, rfl, ⟨_, rfl, k1 z' f (gA_f f (by decide) hh)⟩⟩)
theorem gA_pr {z' : tq_S} (f : fr FP z z') (e : tq_fi z' 1220 = tq_fi z 68) (j : jpr w r S z') (hh : gA c w h r S b p bk pk u z) : gA c w h r S b p bk pk u z' :=
  ⟨gB_c f (by decide) (Or.inl (fr_fi f (by decide))) (Or.inl (fr_fi f (by decide))) (Or.inr e) (jfro_f f (by decide) hh.1.2.2.2.1) (jhav_f f (by decide) hh.1.2.2.2.2.1) j hh.1, gV_f f (by decide) hh.2.1, gK_f f (by decide) hh.2.2.1, gU_f f (by decide) hh.2.2.2⟩
theorem sL_free (hh : gA c w h r S b p bk pk u z) (k1 : ∀ z' m, gA c w h r S b p bk pk u z' → tq_fi z' 1220 = tq_fi z' 68 → PR w r S m z' → g (nI (fb_ct (fun x => S x && decide (m x = x)) 64)) z') : wm_L_free z (tq_wi g) := by
  unfold wm_L_free
  exact sc_free hh.1.2.1 hh.1.2.2.1 hh.1.2.2.2.2.2 (fun z' m f e pr => ⟨_, rfl, ⟨_, rfl, k1 z' m (gA_pr f e (fun _ => ⟨m, pr⟩) hh) (e.trans (fr_fi (k := 68) f (by decide)).symm) pr⟩⟩)
theorem sL_roles {n : Nat} (hn : n = 102 ∨ n = 110 ∨ n = 45) (hh : gA c w h r S b p bk pk u z) (k1 : ∀ z' m, gA c w h r S b p bk pk u z' → tq_fi z' 1220 = tq_fi z' 68 → PR w r S m z' → g (nI (fb_ct (fun c => S c && decide (roC (ct (tq_fl z' 1222)) (ct (tq_fl z' 1223)) c = n)) 64)) z') : wm_L_roles (nI n) z (tq_wi g) := by
  unfold wm_L_roles
  refine sc_roles hh.1.2.1 hh.1.2.2.1 hh.1.2.2.2.2.2 (fun q1 q2 q3 => ?_) (fun n' hn' e z' m f e1 pr => Or.inl ⟨_, rfl, ⟨_, rfl, ?_⟩⟩)
  · rcases hn with rfl | rfl | rfl
    · exact absurd rfl q1
    · exact absurd rfl q2
    · exact absurd rfl q3
  · have en : n = n' := nI_u (by omega) (by omega) e
    subst en
    exact k1 z' m (gA_pr f e1 (fun _ => ⟨m, pr⟩) hh) (e1.trans (fr_fi (k := 68) f (by decide)).symm) pr
theorem sL_rolesNo {a : Int32} (hh : gA c w h r S b p bk pk u z) (q1 : ¬ a = 102) (q2 : ¬ a = 110) (q3 : ¬ a = 45) (k0 : g (-900001) z) : wm_L_roles a z (tq_wi g) := by
  unfold wm_L_roles
  refine sc_roles hh.1.2.1 hh.1.2.2.1 hh.1.2.2.2.2.2 (fun _ _ _ => Or.inr ⟨rfl, ⟨_, rfl, k0⟩⟩) (fun n' hn' e z' m f e1 pr => ?_)
  rcases hn' with rfl | rfl | rfl
  · exact absurd e q1
  · exact absurd e q2
  · exact absurd e q3
theorem sL_has {x y : Int32} (hh : gA c w h r S b p bk pk u z) (k : g (bi (ho w h S x y)) z) : wm_L_has x y z (tq_wi g) := by
  unfold wm_L_has
  refine sc_has hh.1.2.1 hh.1.2.2.1 ⟨_, rfl, ?_⟩
  exact bi_w (G := fun v => tq_wi g (.inl (some (.int v))) z) ⟨_, rfl, k⟩
theorem sL_cells (hh : gA c w h r S b p bk pk u z) (k : g (nI (fb_ct S 64)) z) : wm_L_cells (97 : Int32) z (tq_wi g) := by
  unfold wm_L_cells
  refine sc_cells hh.1.2.2.1 (fun q _ => absurd rfl q) (fun _ => Or.inl ⟨_, rfl, ⟨_, rfl, ?_⟩⟩)
  have e : (fun j => S j && (decide ((97 : Int32) = 97) || dk j)) = S := by
    funext j
    rw [decide_eq_true rfl]; simp
  rw [e]; exact k
end GW
